/** For each sentence of the document a test of its own: what lies at each bound and beyond it, what is refused. */
final class BoundsTest {
    public static void main(String[] args) {
        BoundsOfPlaces.run();
        BoundsOfTexts.run();
        BoundsOfWays.run();
        BoundsOfVillages.run();
        BoundsOfSheets.run();
        BoundsOfRefusals.run();
        Told.all();
        Due.end();
    }
}
