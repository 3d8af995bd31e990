def gFU : Nat := 100000
def m_X6_within (a0 : Int32) (a1 : Int32) (a2 : Int32) (σ : gMem) : Option (Int32) :=
if a0 < a1 then (
some 0) else (
if a2 < a0 then (
some 0) else (
some 1))
def m_X1_addPlace (a0 : Int32) (a1 : Int32) (σ : gMem) : Option (Int32 × gMem) :=
gck (inb (σ 1 0) 12) (
gnm (gst σ 2 (σ 1 0).toNatClampNeg a0) fun s2 =>
gck (inb (s2 1 0) 12) (
gnm (gst s2 3 (s2 1 0).toNatClampNeg a1) fun s4 =>
gck (inb (s4 1 0) 12) (
gnm (gst s4 4 (s4 1 0).toNatClampNeg 0) fun s6 =>
gnm (gst s6 1 0 ((s6 1 0) + 1)) fun s7 =>
some (s6 1 0, s7))))
def m_X6_place (a0 : Int32) (σ : gMem) : Option (Int32 × gMem) :=
gb1 (m_X6_within a0 (-20) 60 σ) fun r2 =>
if r2 = 0 then (
some ((-1), σ)) else (
if (σ 1 0) < 12 then (
gb2 (m_X1_addPlace a0 0 σ) fun r5 s4 =>
some (r5, s4)) else (
some ((-3), σ)))
def m_X1_hasPlace (a0 : Int32) (σ : gMem) : Option (Int32) :=
gb1 (m_X6_within a0 0 ((σ 1 0) - 1) σ) fun r2 =>
gck (izb r2) (some r2)
def m_X6_changed_2 (a1 : Int32) (a2 : Int32) (σ : gMem) : Option (Int32 × gMem) :=
gck (inb a1 12) (
gnm (σ 2 a1.toNatClampNeg) fun x3_2 =>
gck (inb a1 12) (
gnm (gst σ 2 a1.toNatClampNeg a2) fun s4 =>
some (x3_2, s4)))
def m_X6_changed_3 (a1 : Int32) (a2 : Int32) (σ : gMem) : Option (Int32 × gMem) :=
gck (inb a1 12) (
gnm (σ 3 a1.toNatClampNeg) fun x3_2 =>
gck (inb a1 12) (
gnm (gst σ 3 a1.toNatClampNeg a2) fun s4 =>
some (x3_2, s4)))
def b_X1_postsBeside_4 (a0 : Int32) (σ : gMem) (rc : Int32 → Int32 → Option (Int32)) (x2_1 : Int32) (x3_2 : Int32) : Option (Int32) :=
if (σ 1 0) ≤ x3_2 then (
some x2_1) else (
if x3_2 = a0 then (
gnm (x3_2 + 1) fun x3_4 =>
rc x2_1 x3_4) else (
gck (inb x3_2 12) (
if (σ 3 x3_2.toNatClampNeg) ≤ 0 then (
gnm (x3_2 + 1) fun x3_6 =>
rc x2_1 x3_6) else (
gnm (x2_1 + 1) fun x2_7 =>
gnm (x3_2 + 1) fun x3_8 =>
rc x2_7 x3_8))))
def m_X1_postsBeside_4 (a0 : Int32) (σ : gMem) : Nat → Int32 → Int32 → Option (Int32)
  | 0 => fun _ _ => none
  | n + 1 => b_X1_postsBeside_4 a0 σ (m_X1_postsBeside_4 a0 σ n)
def m_X1_postsBeside (a0 : Int32) (σ : gMem) : Option (Int32) :=
gb1 (m_X1_postsBeside_4 a0 σ gFU 0 0) fun x2_3 =>
some x2_3
def m_X6_makeSplices (a0 : Int32) (a1 : Int32) (σ : gMem) : Option (Int32 × gMem) :=
gb1 (m_X6_within a1 0 20 σ) fun r2 =>
if r2 = 0 then (
some ((-100001), σ)) else (
if a1 ≤ 0 then (
gb2 (m_X6_changed_3 a0 a1 σ) fun r5 s4 =>
some (r5, s4)) else (
gb1 (m_X1_postsBeside a0 σ) fun r7 =>
if r7 < 3 then (
gb2 (m_X6_changed_3 a0 a1 σ) fun r10 s9 =>
some (r10, s9)) else (
some ((-100003), σ))))
def m_X6_changed_4 (a1 : Int32) (a2 : Int32) (σ : gMem) : Option (Int32 × gMem) :=
gck (inb a1 12) (
gnm (σ 4 a1.toNatClampNeg) fun x3_2 =>
gck (inb a1 12) (
gnm (gst σ 4 a1.toNatClampNeg a2) fun s4 =>
some (x3_2, s4)))
def m_X6_make (a0 : Int32) (a1 : Int32) (a2 : Int32) (σ : gMem) : Option (Int32 × gMem) :=
gb1 (m_X1_hasPlace a0 σ) fun r2 =>
if r2 = 0 then (
some ((-100001), σ)) else (
if a1 = 0 then (
gb1 (m_X6_within a2 (-20) 60 σ) fun r4 =>
if r4 = 0 then (
some ((-100001), σ)) else (
gb2 (m_X6_changed_2 a0 a2 σ) fun r7 s6 =>
some (r7, s6))) else if a1 = 1 then (
gb2 (m_X6_makeSplices a0 a2 σ) fun r11 s10 =>
some (r11, s10)) else if a1 = 2 then (
gb1 (m_X6_within a2 (-5) 5 σ) fun r14 =>
if r14 = 0 then (
some ((-100001), σ)) else (
gb2 (m_X6_changed_4 a0 a2 σ) fun r17 s16 =>
some (r17, s16))) else (
some ((-100001), σ)))
def m_X1_join (a0 : Int32) (a1 : Int32) (a2 : Int32) (σ : gMem) : Option (gMem) :=
gck (inb a0 12) (
gck (inb a1 12) (
gnm (gst σ (13 + a0.toNatClampNeg) a1.toNatClampNeg a2) fun s3 =>
gck (inb a1 12) (
gck (inb a0 12) (
gnm (gst s3 (13 + a1.toNatClampNeg) a0.toNatClampNeg a2) fun s6 =>
some s6))))
def m_X6_path (a0 : Int32) (a1 : Int32) (a2 : Int32) (σ : gMem) : Option (Int32 × gMem) :=
gb1 (m_X1_hasPlace a0 σ) fun r2 =>
if r2 = 0 then (
some ((-1), σ)) else (
gb1 (m_X1_hasPlace a1 σ) fun r4 =>
if r4 = 0 then (
some ((-1), σ)) else (
if a0 = a1 then (
some ((-1), σ)) else (
gb1 (m_X6_within a2 0 60 σ) fun r6 =>
if r6 = 0 then (
some ((-1), σ)) else (
gck (inb a0 12) (
gck (inb a1 12) (
gnm (σ (13 + a0.toNatClampNeg) a1.toNatClampNeg) fun x4_9 =>
gb1 (m_X1_join a0 a1 a2 σ) fun s11 =>
some (x4_9, s11)))))))
def m_X6_isHour (a0 : Int32) (σ : gMem) : Option (Int32) :=
gb1 (m_X6_within a0 0 23 σ) fun r2 =>
gck (izb r2) (some r2)
def m_X6_changed_6 (a1 : Int32) (a2 : Int32) (σ : gMem) : Option (Int32 × gMem) :=
gck (inb a1 24) (
gnm (σ 6 a1.toNatClampNeg) fun x3_2 =>
gck (inb a1 24) (
gnm (gst σ 6 a1.toNatClampNeg a2) fun s4 =>
some (x3_2, s4)))
def m_X6_tide (a0 : Int32) (a1 : Int32) (σ : gMem) : Option (Int32 × gMem) :=
gb1 (m_X6_isHour a0 σ) fun r2 =>
if r2 = 0 then (
some ((-100001), σ)) else (
gb1 (m_X6_within a1 (-20) 20 σ) fun r4 =>
if r4 = 0 then (
some ((-100001), σ)) else (
gb2 (m_X6_changed_6 a0 a1 σ) fun r7 s6 =>
some (r7, s6)))
def m_X6_set (a0 : Int32) (a1 : Int32) (σ : gMem) : Option (Int32 × gMem) :=
if a0 = 0 then (
gb1 (m_X6_within a1 0 40 σ) fun r6 =>
if r6 = 0 then (
if a0 = 1 then (
gb1 (m_X6_within a1 0 60 σ) fun r8 =>
if r8 = 0 then (
some ((-1), σ)) else (
gnm (σ 1 7) fun x3_9 =>
gnm (gst σ 1 7 a1) fun s10 =>
some (x3_9, s10))) else (
some ((-1), σ))) else (
gnm (σ 1 6) fun x3_11 =>
gnm (gst σ 1 6 a1) fun s12 =>
some (x3_11, s12))) else (
if a0 = 1 then (
gb1 (m_X6_within a1 0 60 σ) fun r2 =>
if r2 = 0 then (
some ((-1), σ)) else (
gnm (σ 1 7) fun x3_3 =>
gnm (gst σ 1 7 a1) fun s4 =>
some (x3_3, s4))) else (
some ((-1), σ)))
def m_X1_addPerson (a0 : Int32) (a1 : Int32) (a2 : Int32) (σ : gMem) : Option (Int32 × gMem) :=
gck (inb (σ 1 8) 8) (
gnm (gst σ 7 (σ 1 8).toNatClampNeg a0) fun s2 =>
gck (inb (s2 1 8) 8) (
gnm (gst s2 8 (s2 1 8).toNatClampNeg a1) fun s4 =>
gck (inb (s4 1 8) 8) (
gnm (gst s4 9 (s4 1 8).toNatClampNeg a2) fun s6 =>
gnm (gst s6 1 8 ((s6 1 8) + 1)) fun s7 =>
some (s6 1 8, s7))))
def m_X6_person (a0 : Int32) (a1 : Int32) (a2 : Int32) (σ : gMem) : Option (Int32 × gMem) :=
gb1 (m_X6_within a0 0 3 σ) fun r2 =>
if r2 = 0 then (
some ((-1), σ)) else (
gb1 (m_X6_within a1 0 60 σ) fun r4 =>
if r4 = 0 then (
some ((-1), σ)) else (
gb1 (m_X1_hasPlace a2 σ) fun r6 =>
if r6 = 0 then (
some ((-1), σ)) else (
if (σ 1 8) < 8 then (
gb2 (m_X1_addPerson a0 a1 a2 σ) fun r9 s8 =>
some (r9, s8)) else (
some ((-3), σ)))))
def m_X1_hasPerson (a0 : Int32) (σ : gMem) : Option (Int32) :=
gb1 (m_X6_within a0 0 ((σ 1 8) - 1) σ) fun r2 =>
gck (izb r2) (some r2)
def m_X1_lengthByKind (a0 : Int32) (a1 : Int32) (a2 : Int32) (σ : gMem) : Option (Int32) :=
if a0 = 2 then (
some (gmax 0 (a1 - 2))) else (
if a0 = 3 then (
some (a1 + a2)) else (
some a1))
def m_X1_lengthOf (a0 : Int32) (σ : gMem) : Option (Int32) :=
gck (inb a0 8) (
gck (inb a0 8) (
gb1 (m_X1_lengthByKind (σ 7 a0.toNatClampNeg) (σ 8 a0.toNatClampNeg) (σ 1 16) σ) fun r4 =>
some r4))
def m_X6_of (a0 : Int32) (a1 : Int32) (σ : gMem) : Option (Int32) :=
gb1 (m_X1_hasPerson a0 σ) fun r2 =>
if r2 = 0 then (
some (-1)) else (
if a1 = 0 then (
gck (inb a0 8) (
some (σ 7 a0.toNatClampNeg))) else if a1 = 1 then (
gck (inb a0 8) (
some (σ 8 a0.toNatClampNeg))) else if a1 = 2 then (
gb1 (m_X1_lengthOf a0 σ) fun r8 =>
some r8) else if a1 = 3 then (
gck (inb a0 8) (
some (σ 9 a0.toNatClampNeg))) else (
some (-1)))
def m_X6_byteOf (a0 : Int64) (a1 : Int32) (σ : gMem) : Option (Int32) :=
some (((a0 >>> ((8 * a1).toInt64 &&& 63)) &&& 255).toInt32)
def m_X3_append (a0 : Int32) (σ : gMem) : Option (gMem) :=
if 80 ≤ (σ 49 0) then (
some σ) else (
gck (inb (σ 49 0) 80) (
gnm (gst σ 50 (σ 49 0).toNatClampNeg a0) fun s2 =>
gnm (gst s2 49 0 ((s2 49 0) + 1)) fun s3 =>
some s3))
def b_X6_type_15 (a0 : Int64) (a1 : Int32) (σ : gMem) (rc : Int32 → Option (Nat)) (x4_3 : Int32) : Option (Nat) :=
if a1 ≤ x4_3 then (
some 1) else (
gb1 (m_X6_byteOf a0 x4_3 σ) fun r6 =>
gb1 (m_X6_within r6 32 126 σ) fun r8 =>
if r8 = 0 then (
some 0) else (
gnm (x4_3 + 1) fun x4_9 =>
rc x4_9))
def m_X6_type_15 (a0 : Int64) (a1 : Int32) (σ : gMem) : Nat → Int32 → Option (Nat)
  | 0 => fun _ => none
  | n + 1 => b_X6_type_15 a0 a1 σ (m_X6_type_15 a0 a1 σ n)
def b_X6_type_67 (a0 : Int64) (rc : Int32 → gMem → Option (gMem)) (x4_12 : Int32) (s13 : gMem) : Option (gMem) :=
if x4_12 < 0 then (
some s13) else (
gb1 (m_X6_byteOf a0 x4_12 s13) fun r16 =>
gb1 (m_X3_append r16 s13) fun s18 =>
gnm (x4_12 + (-1)) fun x4_19 =>
rc x4_19 s18)
def m_X6_type_67 (a0 : Int64) : Nat → Int32 → gMem → Option (gMem)
  | 0 => fun _ _ => none
  | n + 1 => b_X6_type_67 a0 (m_X6_type_67 a0 n)
def m_X6_type (a0 : Int64) (a1 : Int32) (σ : gMem) : Option (Int32 × gMem) :=
gb1 (m_X6_within a1 1 8 σ) fun r2 =>
if r2 = 0 then (
some ((-1), σ)) else (
gb1 (m_X6_type_15 a0 a1 σ gFU 0) fun t4 =>
if t4 = 0 then (
some ((-1), σ)) else (
if (σ 49 0) ≤ (80 - a1) then (
gnm (a1 - 1) fun x4_11 =>
gb1 (m_X6_type_67 a0 gFU x4_11 σ) fun s14 =>
some (s14 49 0, s14)) else (
some ((-3), σ))))
def m_X3_begin  (σ : gMem) : Option (gMem) :=
gnm (gst σ 49 2 0) fun s1 =>
gnm (gst s1 49 5 0) fun s2 =>
gnm (gst s2 49 4 0) fun s3 =>
gnm (gst s3 49 3 (-1)) fun s4 =>
some s4
def b_X3_peek_0 (rc : gMem → Option (gMem)) (s1 : gMem) : Option (gMem) :=
if (s1 49 0) ≤ (s1 49 2) then (
some s1) else (
gck (inb (s1 49 2) 80) (
if (s1 50 (s1 49 2).toNatClampNeg) = 32 then (
gnm (gst s1 49 2 ((s1 49 2) + 1)) fun s4 =>
rc s4) else (
some s1)))
def m_X3_peek_0 : Nat → gMem → Option (gMem)
  | 0 => fun _ => none
  | n + 1 => b_X3_peek_0 (m_X3_peek_0 n)
def m_X3_peek  (σ : gMem) : Option (Int32 × gMem) :=
gb1 (m_X3_peek_0 gFU σ) fun s2 =>
if (s2 49 0) ≤ (s2 49 2) then (
some ((-1), s2)) else (
gck (inb (s2 49 2) 80) (
some (s2 50 (s2 49 2).toNatClampNeg, s2)))
def m_X3_faultAt (a0 : Int32) (σ : gMem) : Option (gMem) :=
if 0 ≤ (σ 49 3) then (
some σ) else (
gnm (gst σ 49 3 a0) fun s1 =>
some s1)
def b_X3_readNumber_32 (rc : Int32 → gMem → Option (Int32 × gMem)) (x4_7 : Int32) (s8 : gMem) : Option (Int32 × gMem) :=
if (s8 49 0) ≤ (s8 49 2) then (
some (x4_7, s8)) else (
gck (inb (s8 49 2) 80) (
gb1 (m_X6_within (s8 50 (s8 49 2).toNatClampNeg) 48 57 s8) fun r13 =>
if r13 = 0 then (
some (x4_7, s8)) else (
gck (inb (s8 49 2) 80) (
gnm (gmin 100 (((x4_7 * 10) + (s8 50 (s8 49 2).toNatClampNeg)) - 48)) fun x4_15 =>
gnm (gst s8 49 2 ((s8 49 2) + 1)) fun s16 =>
rc x4_15 s16))))
def m_X3_readNumber_32 : Nat → Int32 → gMem → Option (Int32 × gMem)
  | 0 => fun _ _ => none
  | n + 1 => b_X3_readNumber_32 (m_X3_readNumber_32 n)
def m_X3_readNumber (a0 : Int32) (a1 : Int32) (σ : gMem) : Option (Int32 × gMem) :=
gb2 (m_X3_peek σ) fun r3 s2 =>
gb1 (m_X6_within r3 48 57 s2) fun r5 =>
if r5 = 0 then (
gb1 (m_X3_faultAt (s2 49 2) s2) fun s23 =>
some (a0, s23)) else (
gnm (s2 49 2) fun x3_6 =>
gb2 (m_X3_readNumber_32 gFU 0 s2) fun x4_9 s10 =>
gb1 (m_X6_within x4_9 a0 a1 s10) fun r19 =>
if r19 = 0 then (
gb1 (m_X3_faultAt x3_6 s10) fun s21 =>
some (a0, s21)) else (
some (x4_9, s10)))
def m_X3_readDepth  (σ : gMem) : Option (Int32 × gMem) :=
gb2 (m_X3_peek σ) fun r3 s2 =>
if r3 = 45 then (
gnm (gst s2 49 2 ((s2 49 2) + 1)) fun s4 =>
gb2 (m_X3_readNumber 0 20 s4) fun r7 s6 =>
some (-r7, s6)) else (
gb2 (m_X3_readNumber 0 60 s2) fun r10 s9 =>
some (r10, s9))
def m_X3_readPlace  (σ : gMem) : Option (gMem) :=
gb2 (m_X3_readDepth σ) fun r3 s2 =>
gck (inb (σ 49 5) 8) (
gnm (gst s2 51 (σ 49 5).toNatClampNeg r3) fun s5 =>
gck (inb (s5 49 5) 8) (
gnm (gst s5 53 (s5 49 5).toNatClampNeg 0) fun s7 =>
gb2 (m_X3_peek s7) fun r10 s9 =>
if r10 = 112 then (
if 3 ≤ (s9 49 4) then (
some s9) else (
gnm (gst s9 49 2 ((s9 49 2) + 1)) fun s11 =>
gnm (gst s11 49 4 ((s11 49 4) + 1)) fun s12 =>
gb2 (m_X3_readNumber 1 20 s12) fun r15 s14 =>
gck (inb (s12 49 5) 8) (
gnm (gst s14 53 (s12 49 5).toNatClampNeg r15) fun s17 =>
some s17))) else (
some s9)))
def m_X3_goesOn (a0 : Int32) (σ : gMem) : Option (Int32 × gMem) :=
gb2 (m_X3_peek σ) fun r3 s2 =>
if 0 ≤ (s2 49 3) then (
some (0, s2)) else (
if 0 ≤ r3 then (
if r3 = a0 then (
if (s2 49 5) < 8 then (
gnm (gst s2 49 2 ((s2 49 2) + 1)) fun s6 =>
some (1, s6)) else (
gb1 (m_X3_faultAt (s2 49 2) s2) fun s8 =>
some (0, s8))) else (
gb1 (m_X3_faultAt (s2 49 2) s2) fun s5 =>
some (0, s5))) else (
some (0, s2)))
def m_X3_outcome  (σ : gMem) : Option (Int32) :=
if 0 ≤ (σ 49 3) then (
some ((-20) - (σ 49 3))) else (
some (σ 49 5))
def b_X3_readPlaces_6 (rc : Int32 → gMem → Option (gMem)) (x1_3 : Int32) (s4 : gMem) : Option (gMem) :=
if x1_3 = 0 then (
some s4) else (
if 8 ≤ (s4 49 5) then (
some s4) else (
gb1 (m_X3_readPlace s4) fun s7 =>
gnm (gst s7 49 5 ((s7 49 5) + 1)) fun s8 =>
gb2 (m_X3_goesOn 59 s8) fun r11 s10 =>
rc r11 s10))
def m_X3_readPlaces_6 : Nat → Int32 → gMem → Option (gMem)
  | 0 => fun _ _ => none
  | n + 1 => b_X3_readPlaces_6 (m_X3_readPlaces_6 n)
def m_X3_readPlaces  (σ : gMem) : Option (Int32 × gMem) :=
gb1 (m_X3_begin σ) fun s2 =>
gb1 (m_X3_readPlaces_6 gFU 1 s2) fun s5 =>
gb1 (m_X3_outcome s5) fun r14 =>
some (r14, s5)
def b_X1_settle_30 (x2_5 : Int32) (rc : Int32 → gMem → Option (gMem)) (x3_8 : Int32) (s9 : gMem) : Option (gMem) :=
if 12 ≤ x3_8 then (
some s9) else (
gck (inb x2_5 12) (
gck (inb x3_8 12) (
gnm (gst s9 (13 + x2_5.toNatClampNeg) x3_8.toNatClampNeg 0) fun s13 =>
gnm (x3_8 + 1) fun x3_14 =>
rc x3_14 s13)))
def m_X1_settle_30 (x2_5 : Int32) : Nat → Int32 → gMem → Option (gMem)
  | 0 => fun _ _ => none
  | n + 1 => b_X1_settle_30 x2_5 (m_X1_settle_30 x2_5 n)
def b_X1_settle_22 (rc : Int32 → gMem → Option (gMem)) (x2_5 : Int32) (s6 : gMem) : Option (gMem) :=
if 12 ≤ x2_5 then (
some s6) else (
gb1 (m_X1_settle_30 x2_5 gFU 0 s6) fun s10 =>
gnm (x2_5 + 1) fun x2_16 =>
rc x2_16 s10)
def m_X1_settle_22 : Nat → Int32 → gMem → Option (gMem)
  | 0 => fun _ _ => none
  | n + 1 => b_X1_settle_22 (m_X1_settle_22 n)
def b_X1_settle_59 (rc : Int32 → gMem → Option (gMem)) (x2_18 : Int32) (s19 : gMem) : Option (gMem) :=
if (s19 49 5) ≤ x2_18 then (
some s19) else (
gck (inb x2_18 8) (
gck (inb x2_18 8) (
gb2 (m_X1_addPlace (s19 51 x2_18.toNatClampNeg) (s19 53 x2_18.toNatClampNeg) s19) fun r25 s24 =>
gnm (x2_18 + 1) fun x2_26 =>
rc x2_26 s24)))
def m_X1_settle_59 : Nat → Int32 → gMem → Option (gMem)
  | 0 => fun _ _ => none
  | n + 1 => b_X1_settle_59 (m_X1_settle_59 n)
def m_X1_settle  (σ : gMem) : Option (gMem) :=
gnm (gst σ 1 0 0) fun s1 =>
gnm (gst s1 1 8 0) fun s2 =>
gnm (gst s2 1 12 0) fun s3 =>
gnm (gst s3 1 16 0) fun s4 =>
gb1 (m_X1_settle_22 gFU 0 s4) fun s7 =>
gb1 (m_X1_settle_59 gFU 0 s7) fun s20 =>
some s20
def m_X6_lagoon  (σ : gMem) : Option (Int32 × gMem) :=
gb2 (m_X3_readPlaces σ) fun r3 s2 =>
if r3 ≤ 0 then (
gnm (gst s2 49 0 0) fun s4 =>
some (r3, s4)) else (
gb1 (m_X1_settle s2) fun s6 =>
gnm (gst s6 49 0 0) fun s7 =>
some (r3, s7))
def m_X3_readLetter (a0 : Int32) (a1 : Int32) (σ : gMem) : Option (Int32 × gMem) :=
gb2 (m_X3_peek σ) fun r3 s2 =>
gnm (r3 - 97) fun x3_4 =>
gb1 (m_X6_within x3_4 0 (a0 - 1) s2) fun r6 =>
if r6 = 0 then (
gb1 (m_X3_faultAt (s2 49 2) s2) fun s8 =>
some (0, s8)) else (
if x3_4 = a1 then (
gb1 (m_X3_faultAt (s2 49 2) s2) fun s11 =>
some (0, s11)) else (
gnm (gst s2 49 2 ((s2 49 2) + 1)) fun s9 =>
some (x3_4, s9)))
def m_X3_readPath (a0 : Int32) (σ : gMem) : Option (gMem) :=
gb2 (m_X3_readLetter a0 (-1) σ) fun r3 s2 =>
gck (inb (σ 49 5) 8) (
gnm (gst s2 51 (σ 49 5).toNatClampNeg r3) fun s5 =>
gck (inb (s5 49 5) 8) (
gb2 (m_X3_readLetter a0 (s5 51 (s5 49 5).toNatClampNeg) s5) fun r9 s8 =>
gck (inb (s5 49 5) 8) (
gnm (gst s8 52 (s5 49 5).toNatClampNeg r9) fun s11 =>
gb2 (m_X3_readNumber 1 60 s11) fun r14 s13 =>
gck (inb (s11 49 5) 8) (
gnm (gst s13 53 (s11 49 5).toNatClampNeg r14) fun s16 =>
some s16))))
def b_X3_readPaths_6 (a0 : Int32) (rc : Int32 → gMem → Option (gMem)) (x2_3 : Int32) (s4 : gMem) : Option (gMem) :=
if x2_3 = 0 then (
some s4) else (
if 8 ≤ (s4 49 5) then (
some s4) else (
gb1 (m_X3_readPath a0 s4) fun s7 =>
gnm (gst s7 49 5 ((s7 49 5) + 1)) fun s8 =>
gb2 (m_X3_goesOn 44 s8) fun r11 s10 =>
rc r11 s10))
def m_X3_readPaths_6 (a0 : Int32) : Nat → Int32 → gMem → Option (gMem)
  | 0 => fun _ _ => none
  | n + 1 => b_X3_readPaths_6 a0 (m_X3_readPaths_6 a0 n)
def m_X3_readPaths (a0 : Int32) (σ : gMem) : Option (Int32 × gMem) :=
gb1 (m_X3_begin σ) fun s2 =>
gb1 (m_X3_readPaths_6 a0 gFU 1 s2) fun s5 =>
gb1 (m_X3_outcome s5) fun r14 =>
some (r14, s5)
def b_X1_joinAll_2 (rc : Int32 → gMem → Option (gMem)) (x2_1 : Int32) (s2 : gMem) : Option (gMem) :=
if (s2 49 5) ≤ x2_1 then (
some s2) else (
gck (inb x2_1 8) (
gck (inb x2_1 8) (
gck (inb x2_1 8) (
gb1 (m_X1_join (s2 51 x2_1.toNatClampNeg) (s2 52 x2_1.toNatClampNeg) (s2 53 x2_1.toNatClampNeg) s2) fun s8 =>
gnm (x2_1 + 1) fun x2_9 =>
rc x2_9 s8))))
def m_X1_joinAll_2 : Nat → Int32 → gMem → Option (gMem)
  | 0 => fun _ _ => none
  | n + 1 => b_X1_joinAll_2 (m_X1_joinAll_2 n)
def m_X1_joinAll  (σ : gMem) : Option (gMem) :=
gb1 (m_X1_joinAll_2 gFU 0 σ) fun s3 =>
some s3
def m_X6_paths  (σ : gMem) : Option (Int32 × gMem) :=
gb2 (m_X3_readPaths (σ 1 0) σ) fun r3 s2 =>
if r3 ≤ 0 then (
gnm (gst s2 49 0 0) fun s4 =>
some (r3, s4)) else (
gb1 (m_X1_joinAll s2) fun s6 =>
gnm (gst s6 49 0 0) fun s7 =>
some (r3, s7))
def b_X1_countPaths_14 (x2_2 : Int32) (σ : gMem) (rc : Int32 → Int32 → Option (Int32)) (x1_4 : Int32) (x3_5 : Int32) : Option (Int32) :=
if x2_2 ≤ x3_5 then (
some x1_4) else (
gck (inb x2_2 12) (
gck (inb x3_5 12) (
if (σ (13 + x2_2.toNatClampNeg) x3_5.toNatClampNeg) ≤ 0 then (
gnm (x3_5 + 1) fun x3_9 =>
rc x1_4 x3_9) else (
gnm (x1_4 + 1) fun x1_10 =>
gnm (x3_5 + 1) fun x3_11 =>
rc x1_10 x3_11))))
def m_X1_countPaths_14 (x2_2 : Int32) (σ : gMem) : Nat → Int32 → Int32 → Option (Int32)
  | 0 => fun _ _ => none
  | n + 1 => b_X1_countPaths_14 x2_2 σ (m_X1_countPaths_14 x2_2 σ n)
def b_X1_countPaths_4 (σ : gMem) (rc : Int32 → Int32 → Option (Int32)) (x1_1 : Int32) (x2_2 : Int32) : Option (Int32) :=
if (σ 1 0) ≤ x2_2 then (
some x1_1) else (
gb1 (m_X1_countPaths_14 x2_2 σ gFU x1_1 0) fun x1_6 =>
gnm (x2_2 + 1) fun x2_13 =>
rc x1_6 x2_13)
def m_X1_countPaths_4 (σ : gMem) : Nat → Int32 → Int32 → Option (Int32)
  | 0 => fun _ _ => none
  | n + 1 => b_X1_countPaths_4 σ (m_X1_countPaths_4 σ n)
def m_X1_countPaths  (σ : gMem) : Option (Int32) :=
gb1 (m_X1_countPaths_4 σ gFU 0 0) fun x1_3 =>
some x1_3
def m_X6_count (a0 : Int32) (σ : gMem) : Option (Int32) :=
if a0 = 0 then (
some (σ 1 0)) else if a0 = 1 then (
gb1 (m_X1_countPaths σ) fun r3 =>
some r3) else if a0 = 2 then (
some (σ 1 8)) else if a0 = 3 then (
some (σ 1 12)) else if a0 = 4 then (
some (σ 1 16)) else (
some (-1))
def m_X1_waterOver (a0 : Int32) (a1 : Int32) (a2 : Int32) (σ : gMem) : Option (Int32) :=
gck (inb a1 24) (
some (gmax 0 ((a0 + (σ 6 a1.toNatClampNeg)) + a2)))
def m_X1_waterAt (a0 : Int32) (a1 : Int32) (σ : gMem) : Option (Int32) :=
gck (inb a0 12) (
gb1 (m_X1_waterOver (σ 2 a0.toNatClampNeg) a1 (σ 1 6) σ) fun r3 =>
some r3)
def m_X6_water (a0 : Int32) (a1 : Int32) (σ : gMem) : Option (Int32) :=
gb1 (m_X1_hasPlace a0 σ) fun r2 =>
if r2 = 0 then (
some (-1)) else (
gb1 (m_X6_isHour a1 σ) fun r4 =>
if r4 = 0 then (
some (-1)) else (
gb1 (m_X1_waterAt a0 a1 σ) fun r6 =>
some r6))
def m_X1_fits (a0 : Int32) (a1 : Int32) (σ : gMem) : Option (Int32) :=
if a0 < a1 then (
some 0) else (
if (σ 1 7) < (a0 - a1) then (
some 0) else (
some 1))
def m_X1_bears (a0 : Int32) (a1 : Int32) (a2 : Int32) (a3 : Int32) (σ : gMem) : Option (Int32) :=
if a0 = 1 then (
gb1 (m_X1_fits (a1 / 2) a3 σ) fun r7 =>
if r7 = 0 then (
gb1 (m_X1_lengthByKind a0 a1 a2 σ) fun r9 =>
gb1 (m_X1_fits r9 a3 σ) fun r11 =>
gck (izb r11) (some r11)) else (
some 1)) else (
gb1 (m_X1_lengthByKind a0 a1 a2 σ) fun r2 =>
gb1 (m_X1_fits r2 a3 σ) fun r4 =>
gck (izb r4) (some r4))
def m_X1_standsAt (a0 : Int32) (a1 : Int32) (a2 : Int32) (σ : gMem) : Option (Int32) :=
gck (inb a0 8) (
gck (inb a0 8) (
gb1 (m_X1_waterAt a1 a2 σ) fun r4 =>
gb1 (m_X1_bears (σ 7 a0.toNatClampNeg) (σ 8 a0.toNatClampNeg) (σ 1 16) r4 σ) fun r6 =>
gck (izb r6) (some r6)))
def m_X6_stands (a0 : Int32) (a1 : Int32) (a2 : Int32) (σ : gMem) : Option (Int32) :=
gb1 (m_X1_hasPerson a0 σ) fun r2 =>
if r2 = 0 then (
some (-1)) else (
gb1 (m_X1_hasPlace a1 σ) fun r4 =>
if r4 = 0 then (
some (-1)) else (
gb1 (m_X6_isHour a2 σ) fun r6 =>
if r6 = 0 then (
some (-1)) else (
gb1 (m_X1_standsAt a0 a1 a2 σ) fun r8 =>
if r8 = 0 then (
some 0) else (
some 1))))
def b_X6_hours_29 (a0 : Int32) (a1 : Int32) (σ : gMem) (rc : Int32 → Int32 → Option (Int32)) (x3_5 : Int32) (x4_6 : Int32) : Option (Int32) :=
if 24 ≤ x4_6 then (
some x3_5) else (
gb1 (m_X1_standsAt a0 a1 x4_6 σ) fun r9 =>
if r9 = 0 then (
gnm (x4_6 + 1) fun x4_10 =>
rc x3_5 x4_10) else (
gnm (x3_5 ||| ((1 : Int32) <<< (x4_6 &&& 31))) fun x3_11 =>
gnm (x4_6 + 1) fun x4_12 =>
rc x3_11 x4_12))
def m_X6_hours_29 (a0 : Int32) (a1 : Int32) (σ : gMem) : Nat → Int32 → Int32 → Option (Int32)
  | 0 => fun _ _ => none
  | n + 1 => b_X6_hours_29 a0 a1 σ (m_X6_hours_29 a0 a1 σ n)
def m_X6_hours (a0 : Int32) (a1 : Int32) (σ : gMem) : Option (Int32) :=
gb1 (m_X1_hasPerson a0 σ) fun r2 =>
if r2 = 0 then (
some (-1)) else (
gb1 (m_X1_hasPlace a1 σ) fun r4 =>
if r4 = 0 then (
some (-1)) else (
gb1 (m_X6_hours_29 a0 a1 σ gFU 0 0) fun x3_7 =>
some x3_7))
def m_X1_depthIn (a0 : Int32) (a1 : Int32) (σ : gMem) : Option (Int32) :=
gck (inb a0 12) (
gck (inb a0 12) (
some (gmin 60 (gmax (-20) ((σ 2 a0.toNatClampNeg) - (a1 * (σ 4 a0.toNatClampNeg)))))))
def b_X1_age_2 (a0 : Int32) (rc : Int32 → gMem → Option (gMem)) (x2_1 : Int32) (s2 : gMem) : Option (gMem) :=
if (s2 1 0) ≤ x2_1 then (
some s2) else (
gb1 (m_X1_depthIn x2_1 a0 s2) fun r5 =>
gck (inb x2_1 12) (
gnm (gst s2 2 x2_1.toNatClampNeg r5) fun s7 =>
gnm (x2_1 + 1) fun x2_8 =>
rc x2_8 s7))
def m_X1_age_2 (a0 : Int32) : Nat → Int32 → gMem → Option (gMem)
  | 0 => fun _ _ => none
  | n + 1 => b_X1_age_2 a0 (m_X1_age_2 a0 n)
def m_X1_age (a0 : Int32) (σ : gMem) : Option (gMem) :=
gb1 (m_X1_age_2 a0 gFU 0 σ) fun s3 =>
gnm (gst s3 1 16 ((s3 1 16) + a0)) fun s10 =>
some s10
def m_X6_years (a0 : Int32) (σ : gMem) : Option (Int32 × gMem) :=
gb1 (m_X6_within a0 1 30 σ) fun r2 =>
if r2 = 0 then (
some ((-1), σ)) else (
if (σ 1 16) ≤ (999 - a0) then (
gb1 (m_X1_age a0 σ) fun s4 =>
some (s4 1 16, s4)) else (
some ((-3), σ)))
def m_X6_isMinute (a0 : Int32) (σ : gMem) : Option (Int32) :=
gb1 (m_X6_within a0 0 1439 σ) fun r2 =>
gck (izb r2) (some r2)
def b_X5_listPosts_66 (x2_4 : Int32) (x3_14 : Int32) (rc : Int32 → gMem → Option (gMem)) (x4_15 : Int32) (s16 : gMem) : Option (gMem) :=
if x3_14 ≤ x4_15 then (
some s16) else (
gck (inb x4_15 8) (
gck (inb x2_4 12) (
gck (inb (x3_14 + x4_15) 8) (
gnm (gst s16 56 (x3_14 + x4_15).toNatClampNeg ((s16 56 x4_15.toNatClampNeg) + (s16 3 x2_4.toNatClampNeg))) fun s21 =>
gnm (x4_15 + 1) fun x4_22 =>
rc x4_22 s21))))
def m_X5_listPosts_66 (x2_4 : Int32) (x3_14 : Int32) : Nat → Int32 → gMem → Option (gMem)
  | 0 => fun _ _ => none
  | n + 1 => b_X5_listPosts_66 x2_4 x3_14 (m_X5_listPosts_66 x2_4 x3_14 n)
def b_X5_listPosts_14 (rc : Int32 → gMem → Option (gMem)) (x2_4 : Int32) (s5 : gMem) : Option (gMem) :=
if (s5 54 0) ≤ x2_4 then (
some s5) else (
gck (inb x2_4 12) (
gnm (gst s5 55 x2_4.toNatClampNeg (-1)) fun s8 =>
gck (inb x2_4 12) (
if (s8 3 x2_4.toNatClampNeg) ≤ 0 then (
gnm (x2_4 + 1) fun x2_10 =>
rc x2_10 s8) else (
if 3 ≤ (s8 54 3) then (
gnm (x2_4 + 1) fun x2_11 =>
rc x2_11 s8) else (
gck (inb x2_4 12) (
gnm (gst s8 55 x2_4.toNatClampNeg (s8 54 3)) fun s13 =>
gnm ((1 : Int32) <<< ((s13 54 3) &&& 31)) fun x3_14 =>
gb1 (m_X5_listPosts_66 x2_4 x3_14 gFU 0 s13) fun s17 =>
gnm (gst s17 54 3 ((s17 54 3) + 1)) fun s24 =>
gnm (x2_4 + 1) fun x2_25 =>
rc x2_25 s24))))))
def m_X5_listPosts_14 : Nat → Int32 → gMem → Option (gMem)
  | 0 => fun _ _ => none
  | n + 1 => b_X5_listPosts_14 (m_X5_listPosts_14 n)
def m_X5_listPosts  (σ : gMem) : Option (gMem) :=
gnm (gst σ 54 3 0) fun s1 =>
gck (inb 0 8) (
gnm (gst s1 56 (0 : Int32).toNatClampNeg 0) fun s3 =>
gb1 (m_X5_listPosts_14 gFU 0 s3) fun s6 =>
some s6)
def b_X5_listEdges_17 (x2_2 : Int32) (rc : Int32 → gMem → Option (gMem)) (x3_5 : Int32) (s6 : gMem) : Option (gMem) :=
if x2_2 ≤ x3_5 then (
some s6) else (
gck (inb x2_2 12) (
gck (inb x3_5 12) (
if (s6 (13 + x2_2.toNatClampNeg) x3_5.toNatClampNeg) ≤ 0 then (
gnm (x3_5 + 1) fun x3_10 =>
rc x3_10 s6) else (
gck (inb (s6 54 9) 144) (
gnm (gst s6 60 (s6 54 9).toNatClampNeg x2_2) fun s12 =>
gck (inb (s12 54 9) 144) (
gnm (gst s12 61 (s12 54 9).toNatClampNeg x3_5) fun s14 =>
gck (inb x2_2 12) (
gck (inb x3_5 12) (
gck (inb (s14 54 9) 144) (
gnm (gst s14 62 (s14 54 9).toNatClampNeg (s14 (13 + x2_2.toNatClampNeg) x3_5.toNatClampNeg)) fun s18 =>
gnm (gst s18 54 9 ((s18 54 9) + 1)) fun s19 =>
gnm (x3_5 + 1) fun x3_20 =>
rc x3_20 s19)))))))))
def m_X5_listEdges_17 (x2_2 : Int32) : Nat → Int32 → gMem → Option (gMem)
  | 0 => fun _ _ => none
  | n + 1 => b_X5_listEdges_17 x2_2 (m_X5_listEdges_17 x2_2 n)
def b_X5_listEdges_7 (rc : Int32 → gMem → Option (gMem)) (x2_2 : Int32) (s3 : gMem) : Option (gMem) :=
if (s3 54 0) ≤ x2_2 then (
some s3) else (
gb1 (m_X5_listEdges_17 x2_2 gFU 0 s3) fun s7 =>
gnm (x2_2 + 1) fun x2_22 =>
rc x2_22 s7)
def m_X5_listEdges_7 : Nat → Int32 → gMem → Option (gMem)
  | 0 => fun _ _ => none
  | n + 1 => b_X5_listEdges_7 (m_X5_listEdges_7 n)
def m_X5_listEdges  (σ : gMem) : Option (gMem) :=
gnm (gst σ 54 9 0) fun s1 =>
gb1 (m_X5_listEdges_7 gFU 0 s1) fun s4 =>
some s4
def b_X5_footingIn_6 (a1 : Int32) (a2 : Int32) (σ : gMem) (rc : Int32 → Int32 → Option (Int32)) (x4_1 : Int32) (x5_2 : Int32) : Option (Int32) :=
if ((1 : Int32) <<< ((σ 54 3) &&& 31)) ≤ x5_2 then (
some x4_1) else (
gck (inb a1 8) (
gck (inb x5_2 8) (
gnm ((σ 8 a1.toNatClampNeg) + (σ 56 x5_2.toNatClampNeg)) fun x6_6 =>
gck (inb a1 8) (
gb1 (m_X1_bears (σ 7 a1.toNatClampNeg) x6_6 (σ 1 16) a2 σ) fun r9 =>
if r9 = 0 then (
gnm (x5_2 + 1) fun x5_10 =>
rc x4_1 x5_10) else (
gnm (x4_1 ||| ((1 : Int32) <<< (x5_2 &&& 31))) fun x4_11 =>
gnm (x5_2 + 1) fun x5_12 =>
rc x4_11 x5_12)))))
def m_X5_footingIn_6 (a1 : Int32) (a2 : Int32) (σ : gMem) : Nat → Int32 → Int32 → Option (Int32)
  | 0 => fun _ _ => none
  | n + 1 => b_X5_footingIn_6 a1 a2 σ (m_X5_footingIn_6 a1 a2 σ n)
def m_X5_footingIn (a1 : Int32) (a2 : Int32) (σ : gMem) : Option (Int32) :=
gb1 (m_X5_footingIn_6 a1 a2 σ gFU 0 0) fun x4_3 =>
some x4_3
def b_X5_prepare_48 (a1 : Int32) (x4_9 : Int32) (rc : Int32 → gMem → Option (gMem)) (x5_12 : Int32) (s13 : gMem) : Option (gMem) :=
if 24 ≤ x5_12 then (
some s13) else (
gck (inb x4_9 12) (
gb1 (m_X1_waterAt x4_9 x5_12 s13) fun r17 =>
gb1 (m_X5_footingIn a1 r17 s13) fun r19 =>
gck (inb x5_12 24) (
gnm (gst s13 (63 + x4_9.toNatClampNeg) x5_12.toNatClampNeg r19) fun s21 =>
gnm (x5_12 + 1) fun x5_22 =>
rc x5_22 s21)))
def m_X5_prepare_48 (a1 : Int32) (x4_9 : Int32) : Nat → Int32 → gMem → Option (gMem)
  | 0 => fun _ _ => none
  | n + 1 => b_X5_prepare_48 a1 x4_9 (m_X5_prepare_48 a1 x4_9 n)
def b_X5_prepare_36 (a1 : Int32) (rc : Int32 → gMem → Option (gMem)) (x4_9 : Int32) (s10 : gMem) : Option (gMem) :=
if (s10 54 0) ≤ x4_9 then (
some s10) else (
gb1 (m_X5_prepare_48 a1 x4_9 gFU 0 s10) fun s14 =>
gnm (x4_9 + 1) fun x4_24 =>
rc x4_24 s14)
def m_X5_prepare_36 (a1 : Int32) : Nat → Int32 → gMem → Option (gMem)
  | 0 => fun _ _ => none
  | n + 1 => b_X5_prepare_36 a1 (m_X5_prepare_36 a1 n)
def m_X5_prepare (a1 : Int32) (a2 : Int32) (σ : gMem) : Option (gMem) :=
gnm (gst σ 54 0 (σ 1 0)) fun s1 =>
gck (inb a1 8) (
gnm (gst s1 54 1 (s1 9 a1.toNatClampNeg)) fun s3 =>
gnm (gst s3 54 2 a2) fun s4 =>
gb1 (m_X5_listPosts s4) fun s6 =>
gb1 (m_X5_listEdges s6) fun s8 =>
gb1 (m_X5_prepare_36 a1 gFU 0 s8) fun s11 =>
some s11)
def m_X5_hourOf (a0 : Int32) (σ : gMem) : Option (Int32) :=
some (grem (((σ 54 2) + a0) / 60) 24)
def m_X5_walkAlong (a0 : Int32) (a1 : Int32) (a2 : Int32) (a3 : Int32) (σ : gMem) : Option (gMem) :=
gb1 (m_X5_hourOf a2 σ) fun r2 =>
gck (inb a0 12) (
gck (inb r2 24) (
gck (inb a1 12) (
gck (inb r2 24) (
gck (inb a0 12) (
gck (inb a3 24) (
gck (inb a1 12) (
gck (inb a3 24) (
gnm ((((σ (63 + a0.toNatClampNeg) r2.toNatClampNeg) &&& (σ (63 + a1.toNatClampNeg) r2.toNatClampNeg)) &&& (σ (63 + a0.toNatClampNeg) a3.toNatClampNeg)) &&& (σ (63 + a1.toNatClampNeg) a3.toNatClampNeg)) fun x6_11 =>
gck (inb (grem a2 61) 61) (
gck (inb a0 12) (
gck (inb a1 12) (
gck (inb a0 12) (
gnm (gst σ 59 a0.toNatClampNeg ((σ 59 a0.toNatClampNeg) ||| ((σ (75 + (grem a2 61).toNatClampNeg) a1.toNatClampNeg) &&& x6_11))) fun s16 =>
gck (inb a1 12) (
gck (inb a0 12) (
gck (inb a1 12) (
gnm (gst s16 59 a1.toNatClampNeg ((s16 59 a1.toNatClampNeg) ||| ((s16 (75 + (grem a2 61).toNatClampNeg) a0.toNatClampNeg) &&& x6_11))) fun s20 =>
some s20)))))))))))))))
def b_X5_arrive_2 (rc : Int32 → gMem → Option (gMem)) (x3_1 : Int32) (s2 : gMem) : Option (gMem) :=
if (s2 54 0) ≤ x3_1 then (
some s2) else (
gck (inb x3_1 12) (
gnm (gst s2 59 x3_1.toNatClampNeg 0) fun s5 =>
gnm (x3_1 + 1) fun x3_6 =>
rc x3_6 s5))
def m_X5_arrive_2 : Nat → Int32 → gMem → Option (gMem)
  | 0 => fun _ _ => none
  | n + 1 => b_X5_arrive_2 (m_X5_arrive_2 n)
def b_X5_arrive_51 (a0 : Int32) (a1 : Int32) (rc : Int32 → gMem → Option (gMem)) (x3_13 : Int32) (s14 : gMem) : Option (gMem) :=
if (s14 54 9) ≤ x3_13 then (
some s14) else (
gck (inb x3_13 144) (
if a0 < (s14 62 x3_13.toNatClampNeg) then (
gnm (x3_13 + 1) fun x3_17 =>
rc x3_17 s14) else (
gck (inb x3_13 144) (
gck (inb x3_13 144) (
gck (inb x3_13 144) (
gb1 (m_X5_walkAlong (s14 60 x3_13.toNatClampNeg) (s14 61 x3_13.toNatClampNeg) (a0 - (s14 62 x3_13.toNatClampNeg)) a1 s14) fun s22 =>
gnm (x3_13 + 1) fun x3_23 =>
rc x3_23 s22))))))
def m_X5_arrive_51 (a0 : Int32) (a1 : Int32) : Nat → Int32 → gMem → Option (gMem)
  | 0 => fun _ _ => none
  | n + 1 => b_X5_arrive_51 a0 a1 (m_X5_arrive_51 a0 a1 n)
def m_X5_arrive (a0 : Int32) (a1 : Int32) (σ : gMem) : Option (gMem) :=
gb1 (m_X5_arrive_2 gFU 0 σ) fun s3 =>
gb1 ((if a0 = 0 then (
gck (inb (s3 54 1) 12) (
gck (inb a1 24) (
gck (inb (s3 54 1) 12) (
gnm (gst s3 59 (s3 54 1).toNatClampNeg (1 &&& (s3 (63 + (s3 54 1).toNatClampNeg) a1.toNatClampNeg))) fun s12 =>
some s12)))) else (
some s3)) : Option (gMem)) fun s8 =>
gb1 (m_X5_arrive_51 a0 a1 gFU 0 s8) fun s15 =>
some s15
def m_X5_withSplice (a0 : Int32) (a1 : Int32) (σ : gMem) : Option (Int32) :=
gck (inb a0 12) (
gnm (σ 55 a0.toNatClampNeg) fun x3_2 =>
gb1 (m_X6_within x3_2 0 2 σ) fun r4 =>
if r4 = 0 then (
some 0) else (
gck (inb x3_2 3) (
some ((a1 &&& (gLk x3_2.toNatClampNeg)) <<< (((1 : Int32) <<< (x3_2 &&& 31)) &&& 31)))))
def b_X5_step_28 (a0 : Int32) (r2 : Int32) (rc : Int32 → Int32 → gMem → Option (Int32 × gMem)) (x4_6 : Int32) (x5_7 : Int32) (s8 : gMem) : Option (Int32 × gMem) :=
if (s8 54 0) ≤ x5_7 then (
some (x4_6, s8)) else (
gb1 ((if a0 ≤ 0 then (
some 0) else (
gck (inb (grem (a0 - 1) 61) 61) (
gck (inb x5_7 12) (
some (s8 (75 + (grem (a0 - 1) 61).toNatClampNeg) x5_7.toNatClampNeg))))) : Option (Int32)) fun w11 =>
gck (inb x5_7 12) (
gck (inb x5_7 12) (
gb1 (m_X5_withSplice x5_7 (s8 59 x5_7.toNatClampNeg) s8) fun r17 =>
gck (inb x5_7 12) (
gck (inb r2 24) (
gck (inb x5_7 12) (
gnm (gst s8 (75 + (grem a0 61).toNatClampNeg) x5_7.toNatClampNeg (((w11 ||| (s8 59 x5_7.toNatClampNeg)) ||| r17) &&& (s8 (63 + x5_7.toNatClampNeg) r2.toNatClampNeg))) fun s21 =>
gck (inb x5_7 12) (
if (s21 (75 + (grem a0 61).toNatClampNeg) x5_7.toNatClampNeg) = 0 then (
gnm (x4_6 ||| 0) fun x4_23 =>
gnm (x5_7 + 1) fun x5_24 =>
rc x4_23 x5_24 s21) else (
gnm (x4_6 ||| 1) fun x4_25 =>
gnm (x5_7 + 1) fun x5_26 =>
rc x4_25 x5_26 s21))))))))
def m_X5_step_28 (a0 : Int32) (r2 : Int32) : Nat → Int32 → Int32 → gMem → Option (Int32 × gMem)
  | 0 => fun _ _ _ => none
  | n + 1 => b_X5_step_28 a0 r2 (m_X5_step_28 a0 r2 n)
def m_X5_step (a0 : Int32) (σ : gMem) : Option (Int32 × gMem) :=
gb1 (m_X5_hourOf a0 σ) fun r2 =>
gb1 (m_X5_arrive a0 r2 σ) fun s4 =>
gck (inb (grem a0 61) 61) (
gb2 (m_X5_step_28 a0 r2 gFU 0 0 s4) fun x4_9 s10 =>
gck (izb x4_9) (some (x4_9, s10)))
def m_X6_holds (a0 : Int32) (a1 : Int32) (σ : gMem) : Option (Int32) :=
if ((a0 >>> (a1 &&& 31)) &&& 1) = 0 then (
some 0) else (
some 1)
def m_J6_bitCount_0f7a4 (a0 : Int32) (σ : gMem) : Option (Int32) :=
gnm (a0 - ((gus a0 1) &&& 1431655765)) fun x0_1 =>
gnm ((x0_1 &&& 858993459) + ((gus x0_1 2) &&& 858993459)) fun x0_2 =>
gnm ((x0_2 + (gus x0_2 4)) &&& 252645135) fun x0_3 =>
gnm (x0_3 + (gus x0_3 8)) fun x0_4 =>
gnm (x0_4 + (gus x0_4 16)) fun x0_5 =>
some (x0_5 &&& 63)
def b_X5_fewestTaken_4 (a0 : Int32) (σ : gMem) (rc : Int32 → Int32 → Option (Int32)) (x2_1 : Int32) (x3_2 : Int32) : Option (Int32) :=
if 8 ≤ x3_2 then (
some x2_1) else (
gb1 (m_X6_holds a0 x3_2 σ) fun r5 =>
if r5 = 0 then (
gnm (x3_2 + 1) fun x3_6 =>
rc x2_1 x3_6) else (
gb1 (m_J6_bitCount_0f7a4 x3_2 σ) fun r8 =>
gnm (gmin x2_1 r8) fun x2_9 =>
gnm (x3_2 + 1) fun x3_10 =>
rc x2_9 x3_10))
def m_X5_fewestTaken_4 (a0 : Int32) (σ : gMem) : Nat → Int32 → Int32 → Option (Int32)
  | 0 => fun _ _ => none
  | n + 1 => b_X5_fewestTaken_4 a0 σ (m_X5_fewestTaken_4 a0 σ n)
def m_X5_fewestTaken (a0 : Int32) (σ : gMem) : Option (Int32) :=
gb1 (m_X5_fewestTaken_4 a0 σ gFU 4 0) fun x2_3 =>
some x2_3
def b_X5_lightest_4 (a0 : Int32) (rc : Int32 → Int32 → gMem → Option (Int32 × gMem)) (x2_1 : Int32) (x3_2 : Int32) (s3 : gMem) : Option (Int32 × gMem) :=
if 600 < x3_2 then (
some (x2_1, s3)) else (
if x2_1 ≤ 0 then (
some (x2_1, s3)) else (
gb2 (m_X5_step x3_2 s3) fun r8 s7 =>
if r8 = 0 then (
some (x2_1, s7)) else (
gck (inb (grem x3_2 61) 61) (
gck (inb a0 12) (
gb1 (m_X5_fewestTaken (s7 (75 + (grem x3_2 61).toNatClampNeg) a0.toNatClampNeg) s7) fun r12 =>
gnm (gmin x2_1 r12) fun x2_13 =>
gnm (x3_2 + 1) fun x3_14 =>
rc x2_13 x3_14 s7)))))
def m_X5_lightest_4 (a0 : Int32) : Nat → Int32 → Int32 → gMem → Option (Int32 × gMem)
  | 0 => fun _ _ _ => none
  | n + 1 => b_X5_lightest_4 a0 (m_X5_lightest_4 a0 n)
def m_X5_lightest (a0 : Int32) (σ : gMem) : Option (Int32 × gMem) :=
gb2 (m_X5_lightest_4 a0 gFU 4 0 σ) fun x2_4 s5 =>
if x2_4 ≤ 3 then (
some (x2_4, s5)) else (
some ((-4), s5))
def b_X5_soonest_2 (a0 : Int32) (rc : Int32 → gMem → Option (Nat × Int32 × gMem)) (x2_1 : Int32) (s2 : gMem) : Option (Nat × Int32 × gMem) :=
if 600 < x2_1 then (
some (1, x2_1, s2)) else (
gb2 (m_X5_step x2_1 s2) fun r8 s7 =>
if r8 = 0 then (
some (1, x2_1, s7)) else (
gck (inb (grem x2_1 61) 61) (
gck (inb a0 12) (
if (s7 (75 + (grem x2_1 61).toNatClampNeg) a0.toNatClampNeg) = 0 then (
gnm (x2_1 + 1) fun x2_11 =>
rc x2_11 s7) else (
some (0, x2_1, s7))))))
def m_X5_soonest_2 (a0 : Int32) : Nat → Int32 → gMem → Option (Nat × Int32 × gMem)
  | 0 => fun _ _ => none
  | n + 1 => b_X5_soonest_2 a0 (m_X5_soonest_2 a0 n)
def m_X5_soonest (a0 : Int32) (σ : gMem) : Option (Int32 × gMem) :=
gb3 (m_X5_soonest_2 a0 gFU 0 σ) fun t5 x2_3 s4 =>
if t5 = 0 then (
some (x2_3, s4)) else (
some ((-4), s4))
def m_X6_way (a0 : Int32) (a1 : Int32) (a2 : Int32) (a3 : Int32) (σ : gMem) : Option (Int32 × gMem) :=
gb1 (m_X1_hasPerson a0 σ) fun r2 =>
if r2 = 0 then (
some ((-1), σ)) else (
gb1 (m_X1_hasPlace a1 σ) fun r4 =>
if r4 = 0 then (
some ((-1), σ)) else (
gb1 (m_X6_isMinute a2 σ) fun r6 =>
if r6 = 0 then (
some ((-1), σ)) else (
gb1 (m_X6_within a3 0 1 σ) fun r8 =>
if r8 = 0 then (
some ((-1), σ)) else (
gb1 (m_X5_prepare a0 a2 σ) fun s10 =>
if a3 = 0 then (
gb2 (m_X5_soonest a1 s10) fun r16 s15 =>
some (r16, s15)) else (
gb2 (m_X5_lightest a1 s10) fun r13 s12 =>
some (r13, s12))))))
def m_X1_hasPeople (a0 : Int32) (σ : gMem) : Option (Int32) :=
gb1 (m_X6_within a0 1 (((1 : Int32) <<< ((σ 1 8) &&& 31)) - 1) σ) fun r2 =>
gck (izb r2) (some r2)
def b_X6_race_56 (a0 : Int32) (a1 : Int32) (a2 : Int32) (rc : Int32 → Int32 → Int32 → Int32 → gMem → Option (Int32 × Int32 × gMem)) (x5_9 : Int32) (x6_10 : Int32) (x7_11 : Int32) (x8_12 : Int32) (s13 : gMem) : Option (Int32 × Int32 × gMem) :=
if (s13 1 8) ≤ x8_12 then (
some (x5_9, x7_11, s13)) else (
gb1 (m_X6_holds a0 x8_12 s13) fun r18 =>
if r18 = 0 then (
gnm (x8_12 + 1) fun x8_28 =>
rc x5_9 x6_10 x7_11 x8_28 s13) else (
gb1 (m_X5_prepare x8_12 a2 s13) fun s20 =>
gb2 (m_X5_soonest a1 s20) fun r23 s22 =>
if r23 = (-4) then (
gnm (x8_12 + 1) fun x8_27 =>
rc x5_9 x6_10 x7_11 x8_27 s22) else (
gnm (x7_11 + 1) fun x7_24 =>
if x6_10 ≤ r23 then (
gnm (x8_12 + 1) fun x8_25 =>
rc x5_9 x6_10 x7_24 x8_25 s22) else (
gnm (x8_12 + 1) fun x8_26 =>
rc x8_12 r23 x7_24 x8_26 s22))))
def m_X6_race_56 (a0 : Int32) (a1 : Int32) (a2 : Int32) : Nat → Int32 → Int32 → Int32 → Int32 → gMem → Option (Int32 × Int32 × gMem)
  | 0 => fun _ _ _ _ _ => none
  | n + 1 => b_X6_race_56 a0 a1 a2 (m_X6_race_56 a0 a1 a2 n)
def m_X6_race (a0 : Int32) (a1 : Int32) (a2 : Int32) (a3 : Int32) (σ : gMem) : Option (Int32 × gMem) :=
gb1 (m_X1_hasPeople a0 σ) fun r2 =>
if r2 = 0 then (
some ((-1), σ)) else (
gb1 (m_X1_hasPlace a1 σ) fun r4 =>
if r4 = 0 then (
some ((-1), σ)) else (
gb1 (m_X6_isMinute a2 σ) fun r6 =>
if r6 = 0 then (
some ((-1), σ)) else (
gb1 (m_X6_within a3 0 1 σ) fun r8 =>
if r8 = 0 then (
some ((-1), σ)) else (
gb3 (m_X6_race_56 a0 a1 a2 gFU (-4) 601 0 0 σ) fun x5_14 x7_15 s16 =>
if a3 = 0 then (
some (x5_14, s16)) else (
some (x7_15, s16))))))
def m_X1_addNeed (a0 : Int32) (a1 : Int32) (a2 : Int32) (σ : gMem) : Option (Int32 × gMem) :=
gck (inb (σ 1 12) 10) (
gnm (gst σ 10 (σ 1 12).toNatClampNeg a0) fun s2 =>
gck (inb (s2 1 12) 10) (
gnm (gst s2 11 (s2 1 12).toNatClampNeg a1) fun s4 =>
gck (inb (s4 1 12) 10) (
gnm (gst s4 12 (s4 1 12).toNatClampNeg a2) fun s6 =>
gnm (gst s6 1 12 ((s6 1 12) + 1)) fun s7 =>
some (s6 1 12, s7))))
def m_X6_need (a0 : Int32) (a1 : Int32) (a2 : Int32) (σ : gMem) : Option (Int32 × gMem) :=
gb1 (m_X1_hasPerson a0 σ) fun r2 =>
if r2 = 0 then (
some ((-1), σ)) else (
gb1 (m_X1_hasPlace a1 σ) fun r4 =>
if r4 = 0 then (
some ((-1), σ)) else (
gb1 (m_X6_isHour a2 σ) fun r6 =>
if r6 = 0 then (
some ((-1), σ)) else (
if (σ 1 12) < 10 then (
gb2 (m_X1_addNeed a0 a1 a2 σ) fun r9 s8 =>
some (r9, s8)) else (
some ((-3), σ)))))
def m_X1_isMet (a0 : Int32) (a1 : Int32) (σ : gMem) : Option (Int32) :=
gck (inb a0 10) (
gck (inb a0 10) (
gb1 (m_X1_waterAt (σ 11 a0.toNatClampNeg) (σ 12 a0.toNatClampNeg) σ) fun r4 =>
gck (inb a0 10) (
gck (inb (σ 10 a0.toNatClampNeg) 8) (
gb1 (m_X1_bears (σ 7 (σ 10 a0.toNatClampNeg).toNatClampNeg) a1 (σ 1 16) r4 σ) fun r8 =>
gck (izb r8) (some r8)))))
def b_X6_met_4 (σ : gMem) (rc : Int32 → Int32 → Option (Int32)) (x1_1 : Int32) (x2_2 : Int32) : Option (Int32) :=
if (σ 1 12) ≤ x2_2 then (
some x1_1) else (
gck (inb x2_2 10) (
gck (inb (σ 10 x2_2.toNatClampNeg) 8) (
gb1 (m_X1_isMet x2_2 (σ 8 (σ 10 x2_2.toNatClampNeg).toNatClampNeg) σ) fun r7 =>
if r7 = 0 then (
gnm (x2_2 + 1) fun x2_8 =>
rc x1_1 x2_8) else (
gnm (x1_1 ||| ((1 : Int32) <<< (x2_2 &&& 31))) fun x1_9 =>
gnm (x2_2 + 1) fun x2_10 =>
rc x1_9 x2_10))))
def m_X6_met_4 (σ : gMem) : Nat → Int32 → Int32 → Option (Int32)
  | 0 => fun _ _ => none
  | n + 1 => b_X6_met_4 σ (m_X6_met_4 σ n)
def m_X6_met  (σ : gMem) : Option (Int32) :=
gb1 (m_X6_met_4 σ gFU 0 0) fun x1_3 =>
some x1_3
def b_X4_suitedBy_8 (a1 : Int32) (σ : gMem) (rc : Int32 → Int32 → Option (Int32)) (x3_2 : Int32) (x4_3 : Int32) : Option (Int32) :=
if (σ 1 12) ≤ x4_3 then (
some x3_2) else (
gb1 (m_X1_isMet x4_3 a1 σ) fun r6 =>
if r6 = 0 then (
gck (inb x4_3 10) (
gnm (x3_2 &&& (((1 : Int32) <<< ((σ 10 x4_3.toNatClampNeg) &&& 31)) ^^^ (-1))) fun x3_9 =>
gnm (x4_3 + 1) fun x4_10 =>
rc x3_9 x4_10)) else (
gnm (x4_3 + 1) fun x4_7 =>
rc x3_2 x4_7))
def m_X4_suitedBy_8 (a1 : Int32) (σ : gMem) : Nat → Int32 → Int32 → Option (Int32)
  | 0 => fun _ _ => none
  | n + 1 => b_X4_suitedBy_8 a1 σ (m_X4_suitedBy_8 a1 σ n)
def m_X4_suitedBy (a1 : Int32) (σ : gMem) : Option (Int32) :=
gnm (σ 136 0) fun x3_1 =>
gb1 (m_X4_suitedBy_8 a1 σ gFU x3_1 0) fun x3_4 =>
some x3_4
def b_X4_weighWith_11 (a0 : Int32) (rc : Int32 → gMem → Option (gMem)) (x3_2 : Int32) (s3 : gMem) : Option (gMem) :=
if (s3 136 0) < x3_2 then (
some s3) else (
gck (inb a0 62) (
gck (inb x3_2 256) (
gck (inb a0 61) (
gck (inb (x3_2 &&& ((s3 137 a0.toNatClampNeg) ^^^ (-1))) 256) (
gck (inb x3_2 256) (
gnm (gst s3 (139 + a0.toNatClampNeg) x3_2.toNatClampNeg (gmin (s3 (139 + (a0 + 1).toNatClampNeg) x3_2.toNatClampNeg) (1 + (s3 (139 + (a0 + 1).toNatClampNeg) (x3_2 &&& ((s3 137 a0.toNatClampNeg) ^^^ (-1))).toNatClampNeg)))) fun s10 =>
gnm (x3_2 + 1) fun x3_11 =>
rc x3_11 s10))))))
def m_X4_weighWith_11 (a0 : Int32) : Nat → Int32 → gMem → Option (gMem)
  | 0 => fun _ _ => none
  | n + 1 => b_X4_weighWith_11 a0 (m_X4_weighWith_11 a0 n)
def m_X4_weighWith (a0 : Int32) (σ : gMem) : Option (gMem) :=
gck (inb (a0 + 1) 62) (
gb1 (m_X4_weighWith_11 a0 gFU 0 σ) fun s4 =>
some s4)
def b_X4_weigh_7 (rc : Int32 → gMem → Option (gMem)) (x2_2 : Int32) (s3 : gMem) : Option (gMem) :=
if (s3 1 12) ≤ x2_2 then (
some s3) else (
gck (inb x2_2 10) (
gnm (gst s3 136 0 ((s3 136 0) ||| ((1 : Int32) <<< ((s3 10 x2_2.toNatClampNeg) &&& 31)))) fun s6 =>
gnm (x2_2 + 1) fun x2_7 =>
rc x2_7 s6))
def m_X4_weigh_7 : Nat → Int32 → gMem → Option (gMem)
  | 0 => fun _ _ => none
  | n + 1 => b_X4_weigh_7 (m_X4_weigh_7 n)
def b_X4_weigh_40 (rc : Int32 → gMem → Option (gMem)) (x2_9 : Int32) (s10 : gMem) : Option (gMem) :=
if 256 ≤ x2_9 then (
some s10) else (
gck (inb 61 62) (
if x2_9 = 0 then (
gck (inb x2_9 256) (
gnm (gst s10 (139 + (61 : Int32).toNatClampNeg) x2_9.toNatClampNeg 0) fun s17 =>
gnm (x2_9 + 1) fun x2_18 =>
rc x2_18 s17)) else (
gck (inb x2_9 256) (
gnm (gst s10 (139 + (61 : Int32).toNatClampNeg) x2_9.toNatClampNeg 100) fun s14 =>
gnm (x2_9 + 1) fun x2_15 =>
rc x2_15 s14))))
def m_X4_weigh_40 : Nat → Int32 → gMem → Option (gMem)
  | 0 => fun _ _ => none
  | n + 1 => b_X4_weigh_40 (m_X4_weigh_40 n)
def b_X4_weigh_75 (rc : Int32 → gMem → Option (gMem)) (x2_20 : Int32) (s21 : gMem) : Option (gMem) :=
if x2_20 < 0 then (
some s21) else (
gb1 (m_X4_suitedBy x2_20 s21) fun r24 =>
gck (inb x2_20 61) (
gnm (gst s21 137 x2_20.toNatClampNeg r24) fun s26 =>
gb1 (m_X4_weighWith x2_20 s26) fun s28 =>
gnm (x2_20 + (-1)) fun x2_29 =>
rc x2_29 s28))
def m_X4_weigh_75 : Nat → Int32 → gMem → Option (gMem)
  | 0 => fun _ _ => none
  | n + 1 => b_X4_weigh_75 (m_X4_weigh_75 n)
def m_X4_weigh  (σ : gMem) : Option (gMem) :=
gnm (gst σ 136 0 0) fun s1 =>
gb1 (m_X4_weigh_7 gFU 0 s1) fun s4 =>
gb1 (m_X4_weigh_40 gFU 0 s4) fun s11 =>
gb1 (m_X4_weigh_75 gFU 60 s11) fun s22 =>
some s22
def m_X4_fewestLengths  (σ : gMem) : Option (Int32) :=
gck (inb 0 62) (
gck (inb (σ 136 0) 256) (
if 100 ≤ (σ (139 + (0 : Int32).toNatClampNeg) (σ 136 0).toNatClampNeg) then (
some (-4)) else (
gck (inb 0 62) (
gck (inb (σ 136 0) 256) (
some (σ (139 + (0 : Int32).toNatClampNeg) (σ 136 0).toNatClampNeg))))))
def b_X4_chosen_21 (a0 : Int32) (σ : gMem) (rc : Int32 → Int32 → Int32 → Option (Nat × Int32)) (x2_4 : Int32) (x3_5 : Int32) (x4_6 : Int32) : Option (Nat × Int32) :=
if 60 < x4_6 then (
some (1, x4_6)) else (
gck (inb x4_6 61) (
gnm (x2_4 &&& ((σ 137 x4_6.toNatClampNeg) ^^^ (-1))) fun x5_10 =>
gck (inb x4_6 62) (
gck (inb x2_4 256) (
gck (inb (x4_6 + 1) 62) (
gck (inb x5_10 256) (
if (σ (139 + x4_6.toNatClampNeg) x2_4.toNatClampNeg) = (1 + (σ (139 + (x4_6 + 1).toNatClampNeg) x5_10.toNatClampNeg)) then (
if x3_5 = a0 then (
some (0, x4_6)) else (
gnm (x3_5 + 1) fun x3_16 =>
gnm (x4_6 + 1) fun x4_17 =>
rc x5_10 x3_16 x4_17)) else (
gnm (x4_6 + 1) fun x4_15 =>
rc x2_4 x3_5 x4_15)))))))
def m_X4_chosen_21 (a0 : Int32) (σ : gMem) : Nat → Int32 → Int32 → Int32 → Option (Nat × Int32)
  | 0 => fun _ _ _ => none
  | n + 1 => b_X4_chosen_21 a0 σ (m_X4_chosen_21 a0 σ n)
def m_X4_chosen (a0 : Int32) (σ : gMem) : Option (Int32) :=
gb1 (m_X4_fewestLengths σ) fun r2 =>
if a0 < r2 then (
gnm (σ 136 0) fun x2_3 =>
gb2 (m_X4_chosen_21 a0 σ gFU x2_3 0 0) fun t8 x4_7 =>
if t8 = 0 then (
some x4_7) else (
some (-4))) else (
some (-4))
def m_X6_lengths (a0 : Int32) (σ : gMem) : Option (Int32 × gMem) :=
if (-1) ≤ a0 then (
if (σ 1 12) = 0 then (
some ((-2), σ)) else (
gb1 (m_X4_weigh σ) fun s2 =>
if a0 = (-1) then (
gb1 (m_X4_fewestLengths s2) fun r6 =>
some (r6, s2)) else (
gb1 (m_X4_chosen a0 s2) fun r4 =>
some (r4, s2)))) else (
some ((-1), σ))
def b_X1_countStanding_5 (a0 : Int32) (a1 : Int32) (σ : gMem) (rc : Int32 → Int32 → Option (Int32)) (x3_1 : Int32) (x4_2 : Int32) : Option (Int32) :=
if (σ 1 8) ≤ x4_2 then (
some x3_1) else (
gb1 (m_X1_standsAt x4_2 a0 a1 σ) fun r5 =>
if r5 = 0 then (
gnm (x4_2 + 1) fun x4_6 =>
rc x3_1 x4_6) else (
gnm (x3_1 + 1) fun x3_7 =>
gnm (x4_2 + 1) fun x4_8 =>
rc x3_7 x4_8))
def m_X1_countStanding_5 (a0 : Int32) (a1 : Int32) (σ : gMem) : Nat → Int32 → Int32 → Option (Int32)
  | 0 => fun _ _ => none
  | n + 1 => b_X1_countStanding_5 a0 a1 σ (m_X1_countStanding_5 a0 a1 σ n)
def m_X1_countStanding (a0 : Int32) (a1 : Int32) (σ : gMem) : Option (Int32) :=
gb1 (m_X1_countStanding_5 a0 a1 σ gFU 0 0) fun x3_3 =>
some x3_3
def b_X6_meeting_34 (x5_6 : Int32) (σ : gMem) (rc : Int32 → Int32 → Int32 → Int32 → Option (Int32 × Int32 × Int32)) (x2_10 : Int32) (x3_11 : Int32) (x4_12 : Int32) (x6_13 : Int32) : Option (Int32 × Int32 × Int32) :=
if (σ 1 0) ≤ x6_13 then (
some (x2_10, x3_11, x4_12)) else (
gck (inb x6_13 12) (
if 0 ≤ (σ 2 x6_13.toNatClampNeg) then (
if (-4) ≤ x4_12 then (
gnm (x6_13 + 1) fun x6_18 =>
rc x2_10 x3_11 x4_12 x6_18) else (
gnm (x6_13 + 1) fun x6_19 =>
rc x6_13 x5_6 (-4) x6_19)) else (
gb1 (m_X1_countStanding x6_13 x5_6 σ) fun r21 =>
if r21 ≤ x4_12 then (
gnm (x6_13 + 1) fun x6_22 =>
rc x2_10 x3_11 x4_12 x6_22) else (
gnm (x6_13 + 1) fun x6_23 =>
rc x6_13 x5_6 r21 x6_23))))
def m_X6_meeting_34 (x5_6 : Int32) (σ : gMem) : Nat → Int32 → Int32 → Int32 → Int32 → Option (Int32 × Int32 × Int32)
  | 0 => fun _ _ _ _ => none
  | n + 1 => b_X6_meeting_34 x5_6 σ (m_X6_meeting_34 x5_6 σ n)
def b_X6_meeting_24 (σ : gMem) (rc : Int32 → Int32 → Int32 → Int32 → Option (Int32 × Int32 × Int32)) (x2_3 : Int32) (x3_4 : Int32) (x4_5 : Int32) (x5_6 : Int32) : Option (Int32 × Int32 × Int32) :=
if 24 ≤ x5_6 then (
some (x2_3, x3_4, x4_5)) else (
gb3 (m_X6_meeting_34 x5_6 σ gFU x2_3 x3_4 x4_5 0) fun x2_14 x3_15 x4_16 =>
gnm (x5_6 + 1) fun x5_25 =>
rc x2_14 x3_15 x4_16 x5_25)
def m_X6_meeting_24 (σ : gMem) : Nat → Int32 → Int32 → Int32 → Int32 → Option (Int32 × Int32 × Int32)
  | 0 => fun _ _ _ _ => none
  | n + 1 => b_X6_meeting_24 σ (m_X6_meeting_24 σ n)
def m_X6_meeting (a0 : Int32) (σ : gMem) : Option (Int32) :=
gb1 (m_X6_within a0 0 2 σ) fun r2 =>
if r2 = 0 then (
some (-1)) else (
gb3 (m_X6_meeting_24 σ gFU (-4) (-4) (-4) 0) fun x2_7 x3_8 x4_9 =>
if a0 = 0 then (
some x2_7) else (
if a0 = 1 then (
some x3_8) else (
some x4_9)))
def b_X1_shortestOf_4 (a0 : Int32) (σ : gMem) (rc : Int32 → Int32 → Option (Int32)) (x2_1 : Int32) (x3_2 : Int32) : Option (Int32) :=
if (σ 1 8) ≤ x3_2 then (
some x2_1) else (
gb1 (m_X6_holds a0 x3_2 σ) fun r5 =>
if r5 = 0 then (
gnm (x3_2 + 1) fun x3_6 =>
rc x2_1 x3_6) else (
if x2_1 < 0 then (
gnm (x3_2 + 1) fun x3_7 =>
rc x3_2 x3_7) else (
gb1 (m_X1_lengthOf x3_2 σ) fun r9 =>
gb1 (m_X1_lengthOf x2_1 σ) fun r11 =>
if r11 ≤ r9 then (
gnm (x3_2 + 1) fun x3_12 =>
rc x2_1 x3_12) else (
gnm (x3_2 + 1) fun x3_13 =>
rc x3_2 x3_13))))
def m_X1_shortestOf_4 (a0 : Int32) (σ : gMem) : Nat → Int32 → Int32 → Option (Int32)
  | 0 => fun _ _ => none
  | n + 1 => b_X1_shortestOf_4 a0 σ (m_X1_shortestOf_4 a0 σ n)
def m_X1_shortestOf (a0 : Int32) (σ : gMem) : Option (Int32) :=
gb1 (m_X1_shortestOf_4 a0 σ gFU (-1) 0) fun x2_3 =>
some (gmax 0 x2_3)
def b_X6_pairs_29 (a0 : Int32) (σ : gMem) (rc : Int32 → Int32 → Int32 → Option (Nat × Int32)) (x2_4 : Int32) (x3_5 : Int32) (x4_6 : Int32) : Option (Nat × Int32) :=
if 8 ≤ x4_6 then (
some (1, x2_4)) else (
if x3_5 = 0 then (
some (1, x2_4)) else (
gb1 (m_X1_shortestOf x3_5 σ) fun r10 =>
gnm (x3_5 &&& (((1 : Int32) <<< (r10 &&& 31)) ^^^ (-1))) fun x3_11 =>
if x3_11 = 0 then (
some (0, x2_4)) else (
gb1 (m_X1_shortestOf x3_11 σ) fun r13 =>
gb1 (m_X1_lengthOf r13 σ) fun r15 =>
gb1 (m_X1_lengthOf r10 σ) fun r17 =>
if a0 < (r15 - r17) then (
gnm (x4_6 + 1) fun x4_18 =>
rc x2_4 x3_11 x4_18) else (
gnm (x2_4 + 1) fun x2_19 =>
gnm (x3_11 &&& (((1 : Int32) <<< (r13 &&& 31)) ^^^ (-1))) fun x3_20 =>
gnm (x4_6 + 1) fun x4_21 =>
rc x2_19 x3_20 x4_21))))
def m_X6_pairs_29 (a0 : Int32) (σ : gMem) : Nat → Int32 → Int32 → Int32 → Option (Nat × Int32)
  | 0 => fun _ _ _ => none
  | n + 1 => b_X6_pairs_29 a0 σ (m_X6_pairs_29 a0 σ n)
def m_X6_pairs (a0 : Int32) (σ : gMem) : Option (Int32) :=
gb1 (m_X6_within a0 0 60 σ) fun r2 =>
if r2 = 0 then (
some (-1)) else (
gnm (((1 : Int32) <<< ((σ 1 8) &&& 31)) - 1) fun x3_3 =>
gb2 (m_X6_pairs_29 a0 σ gFU 0 x3_3 0) fun t8 x2_7 =>
if t8 = 0 then (
some x2_7) else (
some x2_7))
def b_X1_drownsWith_16 (a0 : Int32) (a1 : Int32) (a2 : Int32) (x4_3 : Int32) (σ : gMem) (rc : Int32 → Option (Nat)) (x5_4 : Int32) : Option (Nat) :=
if 24 ≤ x5_4 then (
some 1) else (
gck (inb a0 8) (
gb1 (m_X1_waterOver x4_3 x5_4 a2 σ) fun r8 =>
gb1 (m_X1_bears (σ 7 a0.toNatClampNeg) a1 (σ 1 16) r8 σ) fun r10 =>
if r10 = 0 then (
some 0) else (
gnm (x5_4 + 1) fun x5_11 =>
rc x5_11)))
def m_X1_drownsWith_16 (a0 : Int32) (a1 : Int32) (a2 : Int32) (x4_3 : Int32) (σ : gMem) : Nat → Int32 → Option (Nat)
  | 0 => fun _ => none
  | n + 1 => b_X1_drownsWith_16 a0 a1 a2 x4_3 σ (m_X1_drownsWith_16 a0 a1 a2 x4_3 σ n)
def m_X1_drownsWith (a0 : Int32) (a1 : Int32) (a2 : Int32) (σ : gMem) : Option (Int32) :=
gck (inb a0 8) (
gck (inb (σ 9 a0.toNatClampNeg) 12) (
gnm (σ 2 (σ 9 a0.toNatClampNeg).toNatClampNeg) fun x4_3 =>
gb1 (m_X1_drownsWith_16 a0 a1 a2 x4_3 σ gFU 0) fun t5 =>
if t5 = 0 then (
some 1) else (
some 0)))
def m_X0_drownedBehind (a0 : Int32) (a1 : Int32) (σ : gMem) : Option (Int32) :=
gb1 (m_J6_bitCount_0f7a4 a0 σ) fun r2 =>
gnm (gmin r2 7) fun x3_3 =>
gck (inb x3_3 8) (
gck (inb (a0 ||| ((1 : Int32) <<< (a1 &&& 31))) 256) (
some ((((σ 202 x3_3.toNatClampNeg) >>> (a1 &&& 31)) &&& 1) + (σ 203 (a0 ||| ((1 : Int32) <<< (a1 &&& 31))).toNatClampNeg))))
def b_X0_firstBest_4 (a0 : Int32) (σ : gMem) (rc : Int32 → Int32 → Option (Int32)) (x2_1 : Int32) (x3_2 : Int32) : Option (Int32) :=
if (σ 201 0) ≤ x3_2 then (
some x2_1) else (
gb1 (m_X6_holds a0 x3_2 σ) fun r5 =>
if r5 = 0 then (
if x2_1 < 0 then (
gnm (x3_2 + 1) fun x3_6 =>
rc x3_2 x3_6) else (
gb1 (m_X0_drownedBehind a0 x3_2 σ) fun r8 =>
gb1 (m_X0_drownedBehind a0 x2_1 σ) fun r10 =>
if r10 ≤ r8 then (
gnm (x3_2 + 1) fun x3_11 =>
rc x2_1 x3_11) else (
gnm (x3_2 + 1) fun x3_12 =>
rc x3_2 x3_12))) else (
gnm (x3_2 + 1) fun x3_13 =>
rc x2_1 x3_13))
def m_X0_firstBest_4 (a0 : Int32) (σ : gMem) : Nat → Int32 → Int32 → Option (Int32)
  | 0 => fun _ _ => none
  | n + 1 => b_X0_firstBest_4 a0 σ (m_X0_firstBest_4 a0 σ n)
def m_X0_firstBest (a0 : Int32) (σ : gMem) : Option (Int32) :=
gb1 (m_X0_firstBest_4 a0 σ gFU (-1) 0) fun x2_3 =>
some (gmax 0 x2_3)
def b_X0_weigh_28 (a1 : Int32) (x3_2 : Int32) (rc : Int32 → gMem → Option (gMem)) (x4_7 : Int32) (s8 : gMem) : Option (gMem) :=
if (s8 201 0) ≤ x4_7 then (
some s8) else (
gck (inb x4_7 8) (
gb1 (m_X1_drownsWith x3_2 (s8 8 x4_7.toNatClampNeg) a1 s8) fun r12 =>
if r12 = 0 then (
gnm (x4_7 + 1) fun x4_13 =>
rc x4_13 s8) else (
gck (inb x3_2 8) (
gck (inb x3_2 8) (
gnm (gst s8 202 x3_2.toNatClampNeg ((s8 202 x3_2.toNatClampNeg) ||| ((1 : Int32) <<< (x4_7 &&& 31)))) fun s16 =>
gnm (x4_7 + 1) fun x4_17 =>
rc x4_17 s16)))))
def m_X0_weigh_28 (a1 : Int32) (x3_2 : Int32) : Nat → Int32 → gMem → Option (gMem)
  | 0 => fun _ _ => none
  | n + 1 => b_X0_weigh_28 a1 x3_2 (m_X0_weigh_28 a1 x3_2 n)
def b_X0_weigh_10 (a1 : Int32) (rc : Int32 → gMem → Option (gMem)) (x3_2 : Int32) (s3 : gMem) : Option (gMem) :=
if (s3 201 0) ≤ x3_2 then (
some s3) else (
gck (inb x3_2 8) (
gnm (gst s3 202 x3_2.toNatClampNeg 0) fun s6 =>
gb1 (m_X0_weigh_28 a1 x3_2 gFU 0 s6) fun s9 =>
gnm (x3_2 + 1) fun x3_19 =>
rc x3_19 s9))
def m_X0_weigh_10 (a1 : Int32) : Nat → Int32 → gMem → Option (gMem)
  | 0 => fun _ _ => none
  | n + 1 => b_X0_weigh_10 a1 (m_X0_weigh_10 a1 n)
def b_X0_weigh_99 (rc : Int32 → gMem → Option (gMem)) (x4_25 : Int32) (s26 : gMem) : Option (gMem) :=
if x4_25 < 0 then (
some s26) else (
gb1 (m_X0_firstBest x4_25 s26) fun r29 =>
gb1 (m_X0_drownedBehind x4_25 r29 s26) fun r31 =>
gck (inb x4_25 256) (
gnm (gst s26 203 x4_25.toNatClampNeg r31) fun s33 =>
gnm (x4_25 + (-1)) fun x4_34 =>
rc x4_34 s33))
def m_X0_weigh_99 : Nat → Int32 → gMem → Option (gMem)
  | 0 => fun _ _ => none
  | n + 1 => b_X0_weigh_99 (m_X0_weigh_99 n)
def m_X0_weigh (a1 : Int32) (σ : gMem) : Option (gMem) :=
gnm (gst σ 201 0 (σ 1 8)) fun s1 =>
gb1 (m_X0_weigh_10 a1 gFU 0 s1) fun s4 =>
gnm (((1 : Int32) <<< ((s4 201 0) &&& 31)) - 1) fun x3_21 =>
gck (inb x3_21 256) (
gnm (gst s4 203 x3_21.toNatClampNeg 0) fun s23 =>
gnm (x3_21 - 1) fun x4_24 =>
gb1 (m_X0_weigh_99 gFU x4_24 s23) fun s27 =>
some s27)
def b_X0_lengthGivenTo_4 (a0 : Int32) (σ : gMem) (rc : Int32 → Int32 → Option (Int32)) (x2_1 : Int32) (x3_2 : Int32) : Option (Int32) :=
if a0 ≤ x3_2 then (
some x2_1) else (
gb1 (m_X0_firstBest x2_1 σ) fun r5 =>
gnm (x2_1 ||| ((1 : Int32) <<< (r5 &&& 31))) fun x2_6 =>
gnm (x3_2 + 1) fun x3_7 =>
rc x2_6 x3_7)
def m_X0_lengthGivenTo_4 (a0 : Int32) (σ : gMem) : Nat → Int32 → Int32 → Option (Int32)
  | 0 => fun _ _ => none
  | n + 1 => b_X0_lengthGivenTo_4 a0 σ (m_X0_lengthGivenTo_4 a0 σ n)
def m_X0_lengthGivenTo (a0 : Int32) (σ : gMem) : Option (Int32) :=
gb1 (m_X0_lengthGivenTo_4 a0 σ gFU 0 0) fun x2_3 =>
gb1 (m_X0_firstBest x2_3 σ) fun r10 =>
some r10
def m_X0_fewestDrowned  (σ : gMem) : Option (Int32) :=
gck (inb 0 256) (
some (σ 203 (0 : Int32).toNatClampNeg))
def b_X0_drownedAsTheyAre_4 (σ : gMem) (rc : Int32 → Int32 → Option (Int32)) (x1_1 : Int32) (x2_2 : Int32) : Option (Int32) :=
if (σ 201 0) ≤ x2_2 then (
some x1_1) else (
gck (inb x2_2 8) (
gb1 (m_X6_holds (σ 202 x2_2.toNatClampNeg) x2_2 σ) fun r6 =>
if r6 = 0 then (
gnm (x2_2 + 1) fun x2_7 =>
rc x1_1 x2_7) else (
gnm (x1_1 ||| ((1 : Int32) <<< (x2_2 &&& 31))) fun x1_8 =>
gnm (x2_2 + 1) fun x2_9 =>
rc x1_8 x2_9)))
def m_X0_drownedAsTheyAre_4 (σ : gMem) : Nat → Int32 → Int32 → Option (Int32)
  | 0 => fun _ _ => none
  | n + 1 => b_X0_drownedAsTheyAre_4 σ (m_X0_drownedAsTheyAre_4 σ n)
def m_X0_drownedAsTheyAre  (σ : gMem) : Option (Int32) :=
gb1 (m_X0_drownedAsTheyAre_4 σ gFU 0 0) fun x1_3 =>
some x1_3
def m_X6_flood (a0 : Int32) (a1 : Int32) (σ : gMem) : Option (Int32 × gMem) :=
gb1 (m_X6_within a0 0 40 σ) fun r2 =>
if r2 = 0 then (
some ((-1), σ)) else (
gb1 (m_X6_within a1 (-2) ((σ 1 8) - 1) σ) fun r4 =>
if r4 = 0 then (
some ((-1), σ)) else (
gb1 (m_X0_weigh a0 σ) fun s6 =>
if a1 = (-1) then (
gb1 (m_X0_drownedAsTheyAre s6) fun r12 =>
some (r12, s6)) else (
if a1 = (-2) then (
gb1 (m_X0_fewestDrowned s6) fun r10 =>
some (r10, s6)) else (
gb1 (m_X0_lengthGivenTo a1 s6) fun r8 =>
some (r8, s6)))))
def b_X6_carried_40 (a0 : Int32) (a1 : Int32) (a2 : Int32) (σ : gMem) (rc : Int32 → Int32 → Int32 → Option (Int32 × Int32)) (x4_7 : Int32) (x5_8 : Int32) (x6_9 : Int32) : Option (Int32 × Int32) :=
if (σ 1 8) ≤ x6_9 then (
some (x4_7, x5_8)) else (
gb1 (m_X6_holds a0 x6_9 σ) fun r13 =>
if r13 = 0 then (
gnm (x6_9 + 1) fun x6_20 =>
rc x4_7 x5_8 x6_20) else (
gb1 (m_X1_standsAt x6_9 a1 a2 σ) fun r15 =>
if r15 = 0 then (
gnm (x5_8 + 1) fun x5_16 =>
gnm (x6_9 + 1) fun x6_17 =>
rc x4_7 x5_16 x6_17) else (
gnm (x4_7 + 1) fun x4_18 =>
gnm (x6_9 + 1) fun x6_19 =>
rc x4_18 x5_8 x6_19)))
def m_X6_carried_40 (a0 : Int32) (a1 : Int32) (a2 : Int32) (σ : gMem) : Nat → Int32 → Int32 → Int32 → Option (Int32 × Int32)
  | 0 => fun _ _ _ => none
  | n + 1 => b_X6_carried_40 a0 a1 a2 σ (m_X6_carried_40 a0 a1 a2 σ n)
def b_X6_carried_99 (x4_10 : Int32) (x5_11 : Int32) (rc : Int32 → Int32 → Option (Int32)) (x6_22 : Int32) (x7_23 : Int32) : Option (Int32) :=
if x5_11 ≤ x7_23 then (
some x6_22) else (
gnm (x6_22 * (gmax 0 (x4_10 - x7_23))) fun x6_25 =>
gnm (x7_23 + 1) fun x7_26 =>
rc x6_25 x7_26)
def m_X6_carried_99 (x4_10 : Int32) (x5_11 : Int32) : Nat → Int32 → Int32 → Option (Int32)
  | 0 => fun _ _ => none
  | n + 1 => b_X6_carried_99 x4_10 x5_11 (m_X6_carried_99 x4_10 x5_11 n)
def m_X6_carried (a0 : Int32) (a1 : Int32) (a2 : Int32) (σ : gMem) : Option (Int32) :=
gb1 (m_X1_hasPeople a0 σ) fun r2 =>
if r2 = 0 then (
some (-1)) else (
gb1 (m_X1_hasPlace a1 σ) fun r4 =>
if r4 = 0 then (
some (-1)) else (
gb1 (m_X6_isHour a2 σ) fun r6 =>
if r6 = 0 then (
some (-1)) else (
gb2 (m_X6_carried_40 a0 a1 a2 σ gFU 0 0 0) fun x4_10 x5_11 =>
gb1 (m_X6_carried_99 x4_10 x5_11 gFU 1 0) fun x6_24 =>
some x6_24)))
def m_X1_standsAtHomeIn (a0 : Int32) (a1 : Int32) (a2 : Int32) (σ : gMem) : Option (Int32) :=
gck (inb a0 8) (
gb1 (m_X1_depthIn (σ 9 a0.toNatClampNeg) a2 σ) fun r3 =>
gb1 (m_X1_waterOver r3 a1 (σ 1 6) σ) fun r5 =>
gck (inb a0 8) (
gck (inb a0 8) (
gb1 (m_X1_bears (σ 7 a0.toNatClampNeg) (σ 8 a0.toNatClampNeg) ((σ 1 16) + a2) r5 σ) fun r9 =>
gck (izb r9) (some r9))))
def b_X6_wrong_24 (a0 : Int32) (a1 : Int32) (σ : gMem) (rc : Int32 → Int32 → Option (Int32)) (x3_5 : Int32) (x4_6 : Int32) : Option (Int32) :=
if (σ 1 8) ≤ x4_6 then (
some x3_5) else (
gb1 (m_X1_standsAtHomeIn x4_6 a1 0 σ) fun r9 =>
if r9 = 0 then (
gnm (x4_6 + 1) fun x4_10 =>
rc x3_5 x4_10) else (
gb1 (m_X1_standsAtHomeIn x4_6 a1 a0 σ) fun r12 =>
if r12 = 0 then (
gnm (x3_5 ||| ((1 : Int32) <<< (x4_6 &&& 31))) fun x3_14 =>
gnm (x4_6 + 1) fun x4_15 =>
rc x3_14 x4_15) else (
gnm (x4_6 + 1) fun x4_13 =>
rc x3_5 x4_13)))
def m_X6_wrong_24 (a0 : Int32) (a1 : Int32) (σ : gMem) : Nat → Int32 → Int32 → Option (Int32)
  | 0 => fun _ _ => none
  | n + 1 => b_X6_wrong_24 a0 a1 σ (m_X6_wrong_24 a0 a1 σ n)
def m_X6_wrong (a0 : Int32) (a1 : Int32) (σ : gMem) : Option (Int32) :=
gb1 (m_X6_within a0 1 30 σ) fun r2 =>
if r2 = 0 then (
some (-1)) else (
gb1 (m_X6_isHour a1 σ) fun r4 =>
if r4 = 0 then (
some (-1)) else (
gb1 (m_X6_wrong_24 a0 a1 σ gFU 0 0) fun x3_7 =>
some x3_7))
def m_X6_clear  (σ : gMem) : Option (Int32 × gMem) :=
gnm (σ 1 8) fun x1_1 =>
gnm (gst σ 1 8 0) fun s2 =>
gnm (gst s2 1 12 0) fun s3 =>
some (x1_1, s3)
def b_X1_become_b_200 (rc : Int32 → gMem → Option (gMem)) (x2_27 : Int32) (s28 : gMem) : Option (gMem) :=
if 12 ≤ x2_27 then (
some s28) else (
gck (inb x2_27 12) (
gck (inb x2_27 12) (
gck (gcok 12 12 0 0 12) (
gnm (gcpy s28 (13 + x2_27.toNatClampNeg) (37 + x2_27.toNatClampNeg) 0 0 12) fun s33 =>
gnm (x2_27 + 1) fun x2_34 =>
rc x2_34 s33))))
def m_X1_become_b_200 : Nat → Int32 → gMem → Option (gMem)
  | 0 => fun _ _ => none
  | n + 1 => b_X1_become_b_200 (m_X1_become_b_200 n)
def m_X1_become_b  (σ : gMem) : Option (gMem) :=
gnm (gst σ 25 0 (σ 1 0)) fun s1 =>
gnm (gst s1 25 6 (s1 1 6)) fun s2 =>
gnm (gst s2 25 7 (s2 1 7)) fun s3 =>
gnm (gst s3 25 8 (s3 1 8)) fun s4 =>
gnm (gst s4 25 12 (s4 1 12)) fun s5 =>
gnm (gst s5 25 16 (s5 1 16)) fun s6 =>
gck (gcok 12 12 0 0 12) (
gnm (gcpy s6 2 26 0 0 12) fun s8 =>
gck (gcok 12 12 0 0 12) (
gnm (gcpy s8 3 27 0 0 12) fun s10 =>
gck (gcok 12 12 0 0 12) (
gnm (gcpy s10 4 28 0 0 12) fun s12 =>
gck (gcok 24 24 0 0 24) (
gnm (gcpy s12 6 30 0 0 24) fun s14 =>
gck (gcok 8 8 0 0 8) (
gnm (gcpy s14 7 31 0 0 8) fun s16 =>
gck (gcok 8 8 0 0 8) (
gnm (gcpy s16 8 32 0 0 8) fun s18 =>
gck (gcok 8 8 0 0 8) (
gnm (gcpy s18 9 33 0 0 8) fun s20 =>
gck (gcok 10 10 0 0 10) (
gnm (gcpy s20 10 34 0 0 10) fun s22 =>
gck (gcok 10 10 0 0 10) (
gnm (gcpy s22 11 35 0 0 10) fun s24 =>
gck (gcok 10 10 0 0 10) (
gnm (gcpy s24 12 36 0 0 10) fun s26 =>
gb1 (m_X1_become_b_200 gFU 0 s26) fun s29 =>
some s29))))))))))
def m_X6_image  (σ : gMem) : Option (Int32 × gMem) :=
gb1 (m_X1_become_b σ) fun s2 =>
gnm (gst s2 0 2 1) fun s3 =>
some (1, s3)
def b_X1_become_a_200 (rc : Int32 → gMem → Option (gMem)) (x2_27 : Int32) (s28 : gMem) : Option (gMem) :=
if 12 ≤ x2_27 then (
some s28) else (
gck (inb x2_27 12) (
gck (inb x2_27 12) (
gck (gcok 12 12 0 0 12) (
gnm (gcpy s28 (37 + x2_27.toNatClampNeg) (13 + x2_27.toNatClampNeg) 0 0 12) fun s33 =>
gnm (x2_27 + 1) fun x2_34 =>
rc x2_34 s33))))
def m_X1_become_a_200 : Nat → Int32 → gMem → Option (gMem)
  | 0 => fun _ _ => none
  | n + 1 => b_X1_become_a_200 (m_X1_become_a_200 n)
def m_X1_become_a  (σ : gMem) : Option (gMem) :=
gnm (gst σ 1 0 (σ 25 0)) fun s1 =>
gnm (gst s1 1 6 (s1 25 6)) fun s2 =>
gnm (gst s2 1 7 (s2 25 7)) fun s3 =>
gnm (gst s3 1 8 (s3 25 8)) fun s4 =>
gnm (gst s4 1 12 (s4 25 12)) fun s5 =>
gnm (gst s5 1 16 (s5 25 16)) fun s6 =>
gck (gcok 12 12 0 0 12) (
gnm (gcpy s6 26 2 0 0 12) fun s8 =>
gck (gcok 12 12 0 0 12) (
gnm (gcpy s8 27 3 0 0 12) fun s10 =>
gck (gcok 12 12 0 0 12) (
gnm (gcpy s10 28 4 0 0 12) fun s12 =>
gck (gcok 24 24 0 0 24) (
gnm (gcpy s12 30 6 0 0 24) fun s14 =>
gck (gcok 8 8 0 0 8) (
gnm (gcpy s14 31 7 0 0 8) fun s16 =>
gck (gcok 8 8 0 0 8) (
gnm (gcpy s16 32 8 0 0 8) fun s18 =>
gck (gcok 8 8 0 0 8) (
gnm (gcpy s18 33 9 0 0 8) fun s20 =>
gck (gcok 10 10 0 0 10) (
gnm (gcpy s20 34 10 0 0 10) fun s22 =>
gck (gcok 10 10 0 0 10) (
gnm (gcpy s22 35 11 0 0 10) fun s24 =>
gck (gcok 10 10 0 0 10) (
gnm (gcpy s24 36 12 0 0 10) fun s26 =>
gb1 (m_X1_become_a_200 gFU 0 s26) fun s29 =>
some s29))))))))))
def m_X6_restore  (σ : gMem) : Option (Int32 × gMem) :=
if (σ 0 2) = 0 then (
some ((-4), σ)) else (
gb1 (m_X1_become_a σ) fun s2 =>
some (1, s2))
def m_X6_isSheet (a0 : Int32) (σ : gMem) : Option (Int32) :=
gb1 (m_X6_within a0 0 3 σ) fun r2 =>
gck (izb r2) (some r2)
def m_X6_isLane (a0 : Int32) (σ : gMem) : Option (Int32) :=
gb1 (m_X6_within a0 0 2 σ) fun r2 =>
gck (izb r2) (some r2)
def m_X6_refusal (a0 : Int32) (a1 : Int32) (σ : gMem) : Option (Int32) :=
gb1 (m_X6_isSheet a0 σ) fun r2 =>
if r2 = 0 then (
some (-1)) else (
gb1 (m_X6_isLane a1 σ) fun r4 =>
if r4 = 0 then (
some (-1)) else (
gck (inb a0 4) (
if (σ (205 + a0.toNatClampNeg) 0) = 0 then (
some (-11)) else (
gck (inb a0 4) (
if (σ (205 + a0.toNatClampNeg) 1) = a1 then (
some 0) else (
some (-12)))))))
def b_X6_tides_37 (a0 : Int32) (σ : gMem) (rc : Int32 → Option (Nat)) (x5_4 : Int32) : Option (Nat) :=
if 24 ≤ x5_4 then (
some 1) else (
gck (inb x5_4 24) (
gb1 (m_X6_within (σ (209 + a0.toNatClampNeg) x5_4.toNatClampNeg) (-20) 20 σ) fun r8 =>
if r8 = 0 then (
some 0) else (
gnm (x5_4 + 1) fun x5_9 =>
rc x5_9)))
def m_X6_tides_37 (a0 : Int32) (σ : gMem) : Nat → Int32 → Option (Nat)
  | 0 => fun _ => none
  | n + 1 => b_X6_tides_37 a0 σ (m_X6_tides_37 a0 σ n)
def m_X6_tides (a0 : Int32) (a1 : Int32) (σ : gMem) : Option (Int32 × gMem) :=
gb1 (m_X6_refusal a0 a1 σ) fun r2 =>
if r2 = 0 then (
gck (inb a0 4) (
if 24 ≤ (σ (205 + a0.toNatClampNeg) 2) then (
gb1 (m_X6_tides_37 a0 σ gFU 0) fun t5 =>
if t5 = 0 then (
some ((-2), σ)) else (
gck (gcok 24 24 0 0 24) (
gnm (gcpy σ (209 + a0.toNatClampNeg) 6 0 0 24) fun s12 =>
some (1, s12)))) else (
some ((-13), σ)))) else (
some (r2, σ))
def b_X2_hold_17 (i : Nat) (rc : Int32 → gMem → Option (gMem)) (x3_4 : Int32) (s5 : gMem) : Option (gMem) :=
if 24 ≤ x3_4 then (
some s5) else (
gck (inb x3_4 24) (
gnm (gst s5 (209 + i) x3_4.toNatClampNeg 0) fun s8 =>
gnm (x3_4 + 1) fun x3_9 =>
rc x3_9 s8))
def m_X2_hold_17 (i : Nat) : Nat → Int32 → gMem → Option (gMem)
  | 0 => fun _ _ => none
  | n + 1 => b_X2_hold_17 i (m_X2_hold_17 i n)
def m_X2_hold (i : Nat) (a0 : Int32) (a1 : Int32) (σ : gMem) : Option (gMem) :=
gnm (gst σ (205 + i) 0 1) fun s1 =>
gnm (gst s1 (205 + i) 1 a0) fun s2 =>
gnm (gst s2 (205 + i) 2 a1) fun s3 =>
gb1 (m_X2_hold_17 i gFU 0 s3) fun s6 =>
some s6
def m_X6_sheet (a0 : Int32) (a1 : Int32) (a2 : Int32) (σ : gMem) : Option (Int32 × gMem) :=
gb1 (m_X6_isSheet a0 σ) fun r2 =>
if r2 = 0 then (
some ((-1), σ)) else (
gb1 (m_X6_isLane a1 σ) fun r4 =>
if r4 = 0 then (
some ((-1), σ)) else (
if a2 ≤ 24 then (
if 0 ≤ a2 then (
gck (inb a0 4) (
gb1 (m_X2_hold a0.toNatClampNeg a1 a2 σ) fun s7 =>
some (a2, s7))) else (
some ((-14), σ))) else (
some ((-1), σ))))
def m_X6_drop (a0 : Int32) (σ : gMem) : Option (Int32 × gMem) :=
gb1 (m_X6_isSheet a0 σ) fun r2 =>
if r2 = 0 then (
some ((-1), σ)) else (
gck (inb a0 4) (
if (σ (205 + a0.toNatClampNeg) 0) = 0 then (
some ((-11), σ)) else (
gnm (gst σ (205 + a0.toNatClampNeg) 0 0) fun s4 =>
some (s4 (205 + a0.toNatClampNeg) 2, s4))))
def m_X2_put (i : Nat) (a0 : Int32) (a1 : Int32) (σ : gMem) : Option (gMem) :=
if (σ (205 + i) 1) = 0 then (
gck (inb a0 24) (
gnm (gst σ (209 + i) a0.toNatClampNeg a1.toInt8.toInt32) fun s6 =>
some s6)) else (
if (σ (205 + i) 1) = 1 then (
gck (inb a0 24) (
gnm (gst σ (209 + i) a0.toNatClampNeg a1.toInt16.toInt32) fun s4 =>
some s4)) else (
gck (inb a0 24) (
gnm (gst σ (209 + i) a0.toNatClampNeg a1) fun s2 =>
some s2)))
def m_X6_item (a0 : Int32) (a1 : Int32) (a2 : Int32) (a3 : Int32) (σ : gMem) : Option (Int32 × gMem) :=
gb1 (m_X6_refusal a0 a1 σ) fun r2 =>
if r2 = 0 then (
gck (inb a0 4) (
gb1 (m_X6_within a2 0 ((σ (205 + a0.toNatClampNeg) 2) - 1) σ) fun r5 =>
if r5 = 0 then (
some ((-13), σ)) else (
gb1 (m_X2_put a0.toNatClampNeg a2 a3 σ) fun s7 =>
some (1, s7)))) else (
some (r2, σ))
def m_X2_hasRange (i : Nat) (a0 : Int32) (a1 : Int32) (σ : gMem) : Option (Int32) :=
gb1 (m_X6_within a0 0 (σ (205 + i) 2) σ) fun r2 =>
if r2 = 0 then (
some 0) else (
if ((σ (205 + i) 2) - a0) < a1 then (
some 0) else (
some 1))
def m_X6_copy (a0 : Int32) (a1 : Int32) (a2 : Int32) (a3 : Int32) (a4 : Int32) (σ : gMem) : Option (Int32 × gMem) :=
gb1 (m_X6_isSheet a0 σ) fun r2 =>
if r2 = 0 then (
some ((-1), σ)) else (
gb1 (m_X6_isSheet a2 σ) fun r4 =>
if r4 = 0 then (
some ((-1), σ)) else (
gck (inb a0 4) (
gck (inb a2 4) (
if (σ (205 + a0.toNatClampNeg) 0) = 0 then (
some ((-11), σ)) else (
if (σ (205 + a2.toNatClampNeg) 0) = 0 then (
some ((-11), σ)) else (
if (σ (205 + a0.toNatClampNeg) 1) = (σ (205 + a2.toNatClampNeg) 1) then (
if a4 < 0 then (
some ((-13), σ)) else (
gb1 (m_X2_hasRange a0.toNatClampNeg a1 a4 σ) fun r8 =>
if r8 = 0 then (
some ((-13), σ)) else (
gb1 (m_X2_hasRange a2.toNatClampNeg a3 a4 σ) fun r10 =>
if r10 = 0 then (
some ((-13), σ)) else (
gck (gcok 24 24 a1 a3 a4) (
gnm (gcpy σ (209 + a0.toNatClampNeg) (209 + a2.toNatClampNeg) a1 a3 a4) fun s12 =>
some (a4, s12)))))) else (
some ((-12), σ))))))))
def m_X7_in (a0 : Int64) (a1 : Int64) (a2 : Int64) (σ : gMem) : Option (Int32) :=
if (lg_cmp a0 a1) < 0 then (
some 0) else (
if 0 < (lg_cmp a0 a2) then (
some 0) else (
some 1))
def m_X7_put (a0 : Int32) (a1 : Int32) (σ : gMem) : Option (gMem) :=
gck (inb 62 528) (
gnm (σ 1 (62 : Int32).toNatClampNeg) fun x3_2 =>
gck (inb (0 + x3_2) 528) (
gnm (gst σ 1 (0 + x3_2).toNatClampNeg a0) fun s4 =>
gck (inb (12 + x3_2) 528) (
gnm (gst s4 1 (12 + x3_2).toNatClampNeg a1) fun s6 =>
gck (inb (24 + x3_2) 528) (
gnm (gst s6 1 (24 + x3_2).toNatClampNeg 0) fun s8 =>
gck (inb 62 528) (
gck (inb 62 528) (
gnm (gst s8 1 (62 : Int32).toNatClampNeg ((s8 1 (62 : Int32).toNatClampNeg) + 1)) fun s11 =>
some s11))))))
def m_X7_place (a0 : Int32) (σ : gMem) : Option (Int32 × gMem) :=
gb1 (m_X7_in a0.toInt64 (-20) 60 σ) fun r2 =>
if r2 = 0 then (
some ((-1), σ)) else (
gck (inb 62 528) (
if (σ 1 (62 : Int32).toNatClampNeg) = 12 then (
some ((-3), σ)) else (
gb1 (m_X7_put a0 0 σ) fun s5 =>
gck (inb 62 528) (
some ((s5 1 (62 : Int32).toNatClampNeg) - 1, s5)))))
def m_X7_isPlace (a0 : Int32) (σ : gMem) : Option (Int32) :=
gck (inb 62 528) (
gb1 (m_X7_in a0.toInt64 0 (((σ 1 (62 : Int32).toNatClampNeg) - 1).toInt64) σ) fun r3 =>
gck (izb r3) (some r3))
def b_X7_posts_4 (a0 : Int32) (σ : gMem) (rc : Int32 → Int32 → Option (Int32)) (x2_1 : Int32) (x3_2 : Int32) : Option (Int32) :=
gck (inb 62 528) (
if (σ 1 (62 : Int32).toNatClampNeg) ≤ x3_2 then (
some x2_1) else (
if x3_2 = a0 then (
gnm (x2_1 + 0) fun x2_5 =>
gnm (x3_2 + 1) fun x3_6 =>
rc x2_5 x3_6) else (
gck (inb (12 + x3_2) 528) (
if (σ 1 (12 + x3_2).toNatClampNeg) ≤ 0 then (
gnm (x2_1 + 0) fun x2_8 =>
gnm (x3_2 + 1) fun x3_9 =>
rc x2_8 x3_9) else (
gnm (x2_1 + 1) fun x2_10 =>
gnm (x3_2 + 1) fun x3_11 =>
rc x2_10 x3_11)))))
def m_X7_posts_4 (a0 : Int32) (σ : gMem) : Nat → Int32 → Int32 → Option (Int32)
  | 0 => fun _ _ => none
  | n + 1 => b_X7_posts_4 a0 σ (m_X7_posts_4 a0 σ n)
def m_X7_posts (a0 : Int32) (σ : gMem) : Option (Int32) :=
gb1 (m_X7_posts_4 a0 σ gFU 0 0) fun x2_3 =>
some x2_3
def m_X7_make (a0 : Int32) (a1 : Int32) (a2 : Int32) (σ : gMem) : Option (Int32 × gMem) :=
gb1 ((if a1 = 0 then (
gb1 (m_X7_in a2.toInt64 (-20) 60 σ) fun r7 =>
some r7) else (
if a1 = 1 then (
gb1 (m_X7_in a2.toInt64 0 20 σ) fun r5 =>
some r5) else (
if a1 = 2 then (
gb1 (m_X7_in a2.toInt64 (-5) 5 σ) fun r3 =>
if r3 = 0 then (
some 0) else (
some 1)) else (
some 0)))) : Option (Int32)) fun w1 =>
gb1 (m_X7_isPlace a0 σ) fun r9 =>
if r9 = 0 then (
some ((-100001), σ)) else (
if w1 = 0 then (
some ((-100001), σ)) else (
if a1 = 1 then (
if a2 ≤ 0 then (
gck (inb ((12 * a1) + a0) 528) (
gnm (σ 1 ((12 * a1) + a0).toNatClampNeg) fun x5_15 =>
gck (inb ((12 * a1) + a0) 528) (
gnm (gst σ 1 ((12 * a1) + a0).toNatClampNeg a2) fun s17 =>
some (x5_15, s17)))) else (
gb1 (m_X7_posts a0 σ) fun r19 =>
if r19 = 3 then (
some ((-100003), σ)) else (
gck (inb ((12 * a1) + a0) 528) (
gnm (σ 1 ((12 * a1) + a0).toNatClampNeg) fun x5_21 =>
gck (inb ((12 * a1) + a0) 528) (
gnm (gst σ 1 ((12 * a1) + a0).toNatClampNeg a2) fun s23 =>
some (x5_21, s23)))))) else (
gck (inb ((12 * a1) + a0) 528) (
gnm (σ 1 ((12 * a1) + a0).toNatClampNeg) fun x5_11 =>
gck (inb ((12 * a1) + a0) 528) (
gnm (gst σ 1 ((12 * a1) + a0).toNatClampNeg a2) fun s13 =>
some (x5_11, s13))))))
def m_X7_pathOf (a0 : Int32) (a1 : Int32) (σ : gMem) : Option (Int32) :=
gck (inb ((120 + (12 * a0)) + a1) 528) (
some (σ 1 ((120 + (12 * a0)) + a1).toNatClampNeg))
def m_X7_join (a0 : Int32) (a1 : Int32) (a2 : Int32) (σ : gMem) : Option (gMem) :=
gck (inb ((120 + (12 * a0)) + a1) 528) (
gnm (gst σ 1 ((120 + (12 * a0)) + a1).toNatClampNeg a2) fun s2 =>
gck (inb ((120 + (12 * a1)) + a0) 528) (
gnm (gst s2 1 ((120 + (12 * a1)) + a0).toNatClampNeg a2) fun s4 =>
some s4))
def m_X7_path (a0 : Int32) (a1 : Int32) (a2 : Int32) (σ : gMem) : Option (Int32 × gMem) :=
gb1 (m_X7_isPlace a0 σ) fun r2 =>
if r2 = 0 then (
some ((-1), σ)) else (
gb1 (m_X7_isPlace a1 σ) fun r4 =>
if r4 = 0 then (
some ((-1), σ)) else (
if a0 = a1 then (
some ((-1), σ)) else (
gb1 (m_X7_in a2.toInt64 0 60 σ) fun r6 =>
if r6 = 0 then (
some ((-1), σ)) else (
gb1 (m_X7_pathOf a0 a1 σ) fun r8 =>
gb1 (m_X7_join a0 a1 a2 σ) fun s10 =>
some (r8, s10)))))
def m_X7_isHour (a0 : Int32) (σ : gMem) : Option (Int32) :=
gb1 (m_X7_in a0.toInt64 0 23 σ) fun r2 =>
gck (izb r2) (some r2)
def m_X7_tide (a0 : Int32) (a1 : Int32) (σ : gMem) : Option (Int32 × gMem) :=
gb1 (m_X7_isHour a0 σ) fun r2 =>
if r2 = 0 then (
some ((-100001), σ)) else (
gb1 (m_X7_in a1.toInt64 (-20) 20 σ) fun r4 =>
if r4 = 0 then (
some ((-100001), σ)) else (
gck (inb (36 + a0) 528) (
gnm (σ 1 (36 + a0).toNatClampNeg) fun x3_6 =>
gck (inb (36 + a0) 528) (
gnm (gst σ 1 (36 + a0).toNatClampNeg a1) fun s8 =>
some (x3_6, s8)))))
def m_X7_set (a0 : Int32) (a1 : Int32) (σ : gMem) : Option (Int32 × gMem) :=
gb1 (m_X7_in a0.toInt64 0 1 σ) fun r2 =>
if r2 = 0 then (
some ((-1), σ)) else (
gb1 ((if a0 = 0 then (
some 40) else (
some 60)) : Option (Int64)) fun w3 =>
gb1 (m_X7_in a1.toInt64 0 w3 σ) fun r5 =>
if r5 = 0 then (
some ((-1), σ)) else (
gck (inb (60 + a0) 528) (
gnm (σ 1 (60 + a0).toNatClampNeg) fun x3_7 =>
gck (inb (60 + a0) 528) (
gnm (gst σ 1 (60 + a0).toNatClampNeg a1) fun s9 =>
some (x3_7, s9)))))
def m_X7_person (a0 : Int32) (a1 : Int32) (a2 : Int32) (σ : gMem) : Option (Int32 × gMem) :=
gb1 (m_X7_in a0.toInt64 0 3 σ) fun r2 =>
if r2 = 0 then (
some ((-1), σ)) else (
gb1 (m_X7_in a1.toInt64 0 60 σ) fun r4 =>
if r4 = 0 then (
some ((-1), σ)) else (
gb1 (m_X7_isPlace a2 σ) fun r6 =>
if r6 = 0 then (
some ((-1), σ)) else (
gck (inb 63 528) (
if (σ 1 (63 : Int32).toNatClampNeg) = 8 then (
some ((-3), σ)) else (
gck (inb 63 528) (
gnm (σ 1 (63 : Int32).toNatClampNeg) fun x4_9 =>
gck (inb (66 + x4_9) 528) (
gnm (gst σ 1 (66 + x4_9).toNatClampNeg a0) fun s11 =>
gck (inb (74 + x4_9) 528) (
gnm (gst s11 1 (74 + x4_9).toNatClampNeg a1) fun s13 =>
gck (inb (82 + x4_9) 528) (
gnm (gst s13 1 (82 + x4_9).toNatClampNeg a2) fun s15 =>
gck (inb 63 528) (
gck (inb 63 528) (
gnm (gst s15 1 (63 : Int32).toNatClampNeg ((s15 1 (63 : Int32).toNatClampNeg) + 1)) fun s18 =>
some (x4_9, s18))))))))))))
def m_X7_isPerson (a0 : Int32) (σ : gMem) : Option (Int32) :=
gck (inb 63 528) (
gb1 (m_X7_in a0.toInt64 0 (((σ 1 (63 : Int32).toNatClampNeg) - 1).toInt64) σ) fun r3 =>
gck (izb r3) (some r3))
def m_X7_byKind (a0 : Int32) (a1 : Int32) (a2 : Int32) (σ : gMem) : Option (Int32) :=
if a0 = 2 then (
if a1 ≤ 2 then (
some 0) else (
some (a1 - 2))) else (
if a0 = 3 then (
some (a1 + a2)) else (
some a1))
def m_X7_of (a0 : Int32) (a1 : Int32) (σ : gMem) : Option (Int32) :=
gb1 (m_X7_isPerson a0 σ) fun r2 =>
if r2 = 0 then (
some (-1)) else (
gb1 (m_X7_in a1.toInt64 0 3 σ) fun r4 =>
if r4 = 0 then (
some (-1)) else (
if a1 = 2 then (
gck (inb (66 + a0) 528) (
gck (inb (74 + a0) 528) (
gck (inb 65 528) (
gb1 (m_X7_byKind (σ 1 (66 + a0).toNatClampNeg) (σ 1 (74 + a0).toNatClampNeg) (σ 1 (65 : Int32).toNatClampNeg) σ) fun r12 =>
some r12)))) else (
if a1 = 0 then (
gck (inb (66 + a0) 528) (
some (σ 1 (66 + a0).toNatClampNeg))) else (
if a1 = 1 then (
gck (inb (74 + a0) 528) (
some (σ 1 (74 + a0).toNatClampNeg))) else (
gck (inb (82 + a0) 528) (
some (σ 1 (82 + a0).toNatClampNeg)))))))
def b_X7_type_17 (a0 : Int64) (a1 : Int32) (σ : gMem) (rc : Int32 → Option (Nat)) (x4_3 : Int32) : Option (Nat) :=
if a1 ≤ x4_3 then (
some 1) else (
gb1 (m_X7_in ((a0 >>> ((8 * x4_3).toInt64 &&& 63)) &&& 255) 32 126 σ) fun r6 =>
if r6 = 0 then (
some 0) else (
gnm (x4_3 + 1) fun x4_7 =>
rc x4_7))
def m_X7_type_17 (a0 : Int64) (a1 : Int32) (σ : gMem) : Nat → Int32 → Option (Nat)
  | 0 => fun _ => none
  | n + 1 => b_X7_type_17 a0 a1 σ (m_X7_type_17 a0 a1 σ n)
def b_X7_type_73 (a0 : Int64) (rc : Int32 → gMem → Option (gMem)) (x4_10 : Int32) (s11 : gMem) : Option (gMem) :=
if x4_10 < 0 then (
some s11) else (
gck (inb (s11 0 3) 80) (
gnm (gst s11 2 (s11 0 3).toNatClampNeg (((a0 >>> ((8 * x4_10).toInt64 &&& 63)) &&& 255).toInt32)) fun s14 =>
gnm (gst s14 0 3 ((s14 0 3) + 1)) fun s15 =>
gnm (x4_10 + (-1)) fun x4_16 =>
rc x4_16 s15))
def m_X7_type_73 (a0 : Int64) : Nat → Int32 → gMem → Option (gMem)
  | 0 => fun _ _ => none
  | n + 1 => b_X7_type_73 a0 (m_X7_type_73 a0 n)
def m_X7_type (a0 : Int64) (a1 : Int32) (σ : gMem) : Option (Int32 × gMem) :=
gb1 (m_X7_in a1.toInt64 1 8 σ) fun r2 =>
if r2 = 0 then (
some ((-1), σ)) else (
gb1 (m_X7_type_17 a0 a1 σ gFU 0) fun t4 =>
if t4 = 0 then (
some ((-1), σ)) else (
if ((σ 0 3) + a1) ≤ 80 then (
gnm (a1 - 1) fun x4_9 =>
gb1 (m_X7_type_73 a0 gFU x4_9 σ) fun s12 =>
some (s12 0 3, s12)) else (
some ((-3), σ))))
def m_X7_begin  (σ : gMem) : Option (gMem) :=
gnm (gst σ 0 4 0) fun s1 =>
gnm (gst s1 0 5 (-1)) fun s2 =>
some s2
def b_X7_next_0 (rc : gMem → Option (gMem)) (s1 : gMem) : Option (gMem) :=
if (s1 0 3) ≤ (s1 0 4) then (
some s1) else (
gck (inb (s1 0 4) 80) (
if (s1 2 (s1 0 4).toNatClampNeg) = 32 then (
gnm (gst s1 0 4 ((s1 0 4) + 1)) fun s4 =>
rc s4) else (
some s1)))
def m_X7_next_0 : Nat → gMem → Option (gMem)
  | 0 => fun _ => none
  | n + 1 => b_X7_next_0 (m_X7_next_0 n)
def m_X7_next  (σ : gMem) : Option (Int32 × gMem) :=
gb1 (m_X7_next_0 gFU σ) fun s2 =>
if (s2 0 3) ≤ (s2 0 4) then (
some (0, s2)) else (
gck (inb (s2 0 4) 80) (
some (s2 2 (s2 0 4).toNatClampNeg, s2)))
def m_X7_takes (a0 : Int32) (σ : gMem) : Option (Int32 × gMem) :=
gb2 (m_X7_next σ) fun r3 s2 =>
gb1 ((if r3 = a0 then (
some 1) else (
some 0)) : Option (Int32)) fun w4 =>
if w4 = 0 then (
gnm (gst s2 0 4 ((s2 0 4) + 0)) fun s5 =>
gck (izb w4) (some (w4, s5))) else (
gnm (gst s2 0 4 ((s2 0 4) + 1)) fun s7 =>
gck (izb w4) (some (w4, s7)))
def m_X7_cannot (a0 : Int32) (σ : gMem) : Option (gMem) :=
if 0 ≤ (σ 0 5) then (
gnm (gst σ 0 5 (σ 0 5)) fun s1 =>
some s1) else (
gnm (gst σ 0 5 a0) fun s2 =>
some s2)
def b_X7_number_37 (rc : Int32 → gMem → Option (Int32 × gMem)) (x6_7 : Int32) (s8 : gMem) : Option (Int32 × gMem) :=
if (s8 0 3) ≤ (s8 0 4) then (
some (x6_7, s8)) else (
gck (inb (s8 0 4) 80) (
gb1 (m_X7_in ((s8 2 (s8 0 4).toNatClampNeg).toInt64) 48 57 s8) fun r13 =>
if r13 = 0 then (
some (x6_7, s8)) else (
if x6_7 ≤ 999 then (
gck (inb (s8 0 4) 80) (
gnm (((10 * x6_7) + (s8 2 (s8 0 4).toNatClampNeg)) - 48) fun x6_15 =>
gnm (gst s8 0 4 ((s8 0 4) + 1)) fun s16 =>
rc x6_15 s16)) else (
gnm (gst s8 0 4 ((s8 0 4) + 1)) fun s17 =>
rc x6_7 s17))))
def m_X7_number_37 : Nat → Int32 → gMem → Option (Int32 × gMem)
  | 0 => fun _ _ => none
  | n + 1 => b_X7_number_37 (m_X7_number_37 n)
def m_X7_number (a0 : Int32) (a1 : Int32) (a2 : Int32) (σ : gMem) : Option (gMem) :=
gb2 (m_X7_next σ) fun r3 s2 =>
gnm (s2 0 4) fun x5_4 =>
gb1 (m_X7_in r3.toInt64 48 57 s2) fun r6 =>
if r6 = 0 then (
gb1 (m_X7_cannot x5_4 s2) fun s27 =>
some s27) else (
gb2 (m_X7_number_37 gFU 0 s2) fun x6_9 s10 =>
gb1 ((if a2 = 0 then (
some x6_9) else (
some (-x6_9))) : Option (Int32)) fun w19 =>
gnm (gst s10 0 6 w19) fun s20 =>
gb1 (m_X7_in ((s20 0 6).toInt64) a0.toInt64 a1.toInt64 s20) fun r22 =>
if r22 = 0 then (
gb1 (m_X7_cannot x5_4 s20) fun s24 =>
some s24) else (
some s20))
def m_X7_fails  (σ : gMem) : Option (Int32 × gMem) :=
gnm (gst σ 0 3 0) fun s1 =>
some ((-20) - (s1 0 5), s1)
def b_X7_lagoon_10 (rc : Int32 → Int32 → Int32 → gMem → Option (Int32 × gMem)) (x1_3 : Int32) (x2_4 : Int32) (x3_5 : Int32) (s6 : gMem) : Option (Int32 × gMem) :=
if x3_5 = 0 then (
some (x1_3, s6)) else (
if 0 ≤ (s6 0 5) then (
some (x1_3, s6)) else (
gb2 (m_X7_takes 45 s6) fun r11 s10 =>
gb1 (m_X7_number (-20) 60 r11 s10) fun s13 =>
gck (inb (2 * x1_3) 24) (
gnm (gst s13 3 (2 * x1_3).toNatClampNeg (s13 0 6)) fun s15 =>
gck (inb ((2 * x1_3) + 1) 24) (
gnm (gst s15 3 ((2 * x1_3) + 1).toNatClampNeg 0) fun s17 =>
gb2 ((if 0 ≤ (s17 0 5) then (
some (x2_4, s17)) else (
gb2 (m_X7_next s17) fun r22 s21 =>
if r22 = 112 then (
if 3 ≤ x2_4 then (
some (x2_4, s21)) else (
gnm (gst s21 0 4 ((s21 0 4) + 1)) fun s23 =>
gnm (x2_4 + 1) fun x2_24 =>
gb1 (m_X7_number 1 20 0 s23) fun s26 =>
gck (inb ((2 * x1_3) + 1) 24) (
gnm (gst s26 3 ((2 * x1_3) + 1).toNatClampNeg (s26 0 6)) fun s28 =>
some (x2_24, s28)))) else (
some (x2_4, s21)))) : Option (Int32 × gMem)) fun x2_18 s19 =>
gnm (x1_3 + 1) fun x1_29 =>
if 0 ≤ (s19 0 5) then (
gnm (gst s19 0 4 ((s19 0 4) + 0)) fun s30 =>
rc x1_29 x2_18 0 s30) else (
if 8 ≤ x1_29 then (
gnm (gst s19 0 4 ((s19 0 4) + 0)) fun s31 =>
rc x1_29 x2_18 0 s31) else (
gb2 (m_X7_next s19) fun r34 s33 =>
if r34 = 59 then (
gnm (gst s33 0 4 ((s33 0 4) + 1)) fun s36 =>
rc x1_29 x2_18 1 s36) else (
gnm (gst s33 0 4 ((s33 0 4) + 0)) fun s35 =>
rc x1_29 x2_18 0 s35)))))))
def m_X7_lagoon_10 : Nat → Int32 → Int32 → Int32 → gMem → Option (Int32 × gMem)
  | 0 => fun _ _ _ _ => none
  | n + 1 => b_X7_lagoon_10 (m_X7_lagoon_10 n)
def b_X7_lagoon_244 (rc : Int32 → gMem → Option (gMem)) (x4_54 : Int32) (s55 : gMem) : Option (gMem) :=
if 144 ≤ x4_54 then (
some s55) else (
gck (inb (120 + x4_54) 528) (
gnm (gst s55 1 (120 + x4_54).toNatClampNeg 0) fun s58 =>
gnm (x4_54 + 1) fun x4_59 =>
rc x4_59 s58))
def m_X7_lagoon_244 : Nat → Int32 → gMem → Option (gMem)
  | 0 => fun _ _ => none
  | n + 1 => b_X7_lagoon_244 (m_X7_lagoon_244 n)
def b_X7_lagoon_272 (x1_7 : Int32) (rc : Int32 → gMem → Option (gMem)) (x4_61 : Int32) (s62 : gMem) : Option (gMem) :=
if x1_7 ≤ x4_61 then (
some s62) else (
gck (inb (2 * x4_61) 24) (
gck (inb ((2 * x4_61) + 1) 24) (
gb1 (m_X7_put (s62 3 (2 * x4_61).toNatClampNeg) (s62 3 ((2 * x4_61) + 1).toNatClampNeg) s62) fun s67 =>
gnm (x4_61 + 1) fun x4_68 =>
rc x4_68 s67)))
def m_X7_lagoon_272 (x1_7 : Int32) : Nat → Int32 → gMem → Option (gMem)
  | 0 => fun _ _ => none
  | n + 1 => b_X7_lagoon_272 x1_7 (m_X7_lagoon_272 x1_7 n)
def m_X7_lagoon  (σ : gMem) : Option (Int32 × gMem) :=
gb1 (m_X7_begin σ) fun s2 =>
gb2 (m_X7_lagoon_10 gFU 0 0 1 s2) fun x1_7 s8 =>
gb1 ((if 0 ≤ (s8 0 5) then (
some s8) else (
gb2 (m_X7_next s8) fun r42 s41 =>
if r42 = 0 then (
some s41) else (
gb1 (m_X7_cannot (s41 0 4) s41) fun s44 =>
some s44))) : Option (gMem)) fun s39 =>
if (s39 0 5) < 0 then (
gnm (gst s39 0 3 0) fun s45 =>
gck (inb 62 528) (
gnm (gst s45 1 (62 : Int32).toNatClampNeg 0) fun s47 =>
gck (inb 63 528) (
gnm (gst s47 1 (63 : Int32).toNatClampNeg 0) fun s49 =>
gck (inb 64 528) (
gnm (gst s49 1 (64 : Int32).toNatClampNeg 0) fun s51 =>
gck (inb 65 528) (
gnm (gst s51 1 (65 : Int32).toNatClampNeg 0) fun s53 =>
gb1 (m_X7_lagoon_244 gFU 0 s53) fun s56 =>
gb1 (m_X7_lagoon_272 x1_7 gFU 0 s56) fun s63 =>
some (x1_7, s63)))))) else (
gb2 (m_X7_fails s39) fun r72 s71 =>
some (r72, s71))
def m_X7_letter (a0 : Int32) (σ : gMem) : Option (Int32 × gMem) :=
gb2 (m_X7_next σ) fun r3 s2 =>
gnm (r3 - 97) fun x2_4 =>
gb1 (m_X7_isPlace x2_4 s2) fun r6 =>
if r6 = 0 then (
gb1 (m_X7_cannot (s2 0 4) s2) fun s8 =>
some (0, s8)) else (
if x2_4 = a0 then (
gb1 (m_X7_cannot (s2 0 4) s2) fun s11 =>
some (0, s11)) else (
gnm (gst s2 0 4 ((s2 0 4) + 1)) fun s9 =>
some (x2_4, s9)))
def b_X7_paths_8 (rc : Int32 → Int32 → gMem → Option (Int32 × gMem)) (x1_3 : Int32) (x2_4 : Int32) (s5 : gMem) : Option (Int32 × gMem) :=
if x2_4 = 0 then (
some (x1_3, s5)) else (
if 0 ≤ (s5 0 5) then (
some (x1_3, s5)) else (
gb2 (m_X7_letter (-1) s5) fun r10 s9 =>
gb2 ((if 0 ≤ (s9 0 5) then (
some (0, s9)) else (
gb2 (m_X7_letter r10 s9) fun r15 s14 =>
some (r15, s14))) : Option (Int32 × gMem)) fun w11 s12 =>
gb1 ((if 0 ≤ (s12 0 5) then (
some s12) else (
gb1 (m_X7_number 1 60 0 s12) fun s18 =>
some s18)) : Option (gMem)) fun s16 =>
gck (inb (3 * x1_3) 24) (
gnm (gst s16 3 (3 * x1_3).toNatClampNeg r10) fun s20 =>
gck (inb ((3 * x1_3) + 1) 24) (
gnm (gst s20 3 ((3 * x1_3) + 1).toNatClampNeg w11) fun s22 =>
gck (inb ((3 * x1_3) + 2) 24) (
gnm (gst s22 3 ((3 * x1_3) + 2).toNatClampNeg (s22 0 6)) fun s24 =>
gnm (x1_3 + 1) fun x1_25 =>
if 0 ≤ (s24 0 5) then (
gnm (gst s24 0 4 ((s24 0 4) + 0)) fun s26 =>
rc x1_25 0 s26) else (
if 8 ≤ x1_25 then (
gnm (gst s24 0 4 ((s24 0 4) + 0)) fun s27 =>
rc x1_25 0 s27) else (
gb2 (m_X7_next s24) fun r30 s29 =>
if r30 = 44 then (
gnm (gst s29 0 4 ((s29 0 4) + 1)) fun s32 =>
rc x1_25 1 s32) else (
gnm (gst s29 0 4 ((s29 0 4) + 0)) fun s31 =>
rc x1_25 0 s31))))))))
def m_X7_paths_8 : Nat → Int32 → Int32 → gMem → Option (Int32 × gMem)
  | 0 => fun _ _ _ => none
  | n + 1 => b_X7_paths_8 (m_X7_paths_8 n)
def b_X7_paths_186 (x1_6 : Int32) (rc : Int32 → gMem → Option (gMem)) (x3_43 : Int32) (s44 : gMem) : Option (gMem) :=
if x1_6 ≤ x3_43 then (
some s44) else (
gck (inb (3 * x3_43) 24) (
gck (inb ((3 * x3_43) + 1) 24) (
gck (inb ((3 * x3_43) + 2) 24) (
gb1 (m_X7_join (s44 3 (3 * x3_43).toNatClampNeg) (s44 3 ((3 * x3_43) + 1).toNatClampNeg) (s44 3 ((3 * x3_43) + 2).toNatClampNeg) s44) fun s50 =>
gnm (x3_43 + 1) fun x3_51 =>
rc x3_51 s50))))
def m_X7_paths_186 (x1_6 : Int32) : Nat → Int32 → gMem → Option (gMem)
  | 0 => fun _ _ => none
  | n + 1 => b_X7_paths_186 x1_6 (m_X7_paths_186 x1_6 n)
def m_X7_paths  (σ : gMem) : Option (Int32 × gMem) :=
gb1 (m_X7_begin σ) fun s2 =>
gb2 (m_X7_paths_8 gFU 0 1 s2) fun x1_6 s7 =>
gb1 ((if 0 ≤ (s7 0 5) then (
some s7) else (
gb2 (m_X7_next s7) fun r39 s38 =>
if r39 = 0 then (
some s38) else (
gb1 (m_X7_cannot (s38 0 4) s38) fun s41 =>
some s41))) : Option (gMem)) fun s36 =>
if (s36 0 5) < 0 then (
gnm (gst s36 0 3 0) fun s42 =>
gb1 (m_X7_paths_186 x1_6 gFU 0 s42) fun s45 =>
some (x1_6, s45)) else (
gb2 (m_X7_fails s36) fun r55 s54 =>
some (r55, s54))
def b_X7_count_32 (x3_8 : Int32) (σ : gMem) (rc : Int32 → Int32 → Option (Int32)) (x2_10 : Int32) (x4_11 : Int32) : Option (Int32) :=
if x3_8 ≤ x4_11 then (
some x2_10) else (
gb1 (m_X7_pathOf x3_8 x4_11 σ) fun r14 =>
if r14 ≤ 0 then (
gnm (x2_10 + 0) fun x2_15 =>
gnm (x4_11 + 1) fun x4_16 =>
rc x2_15 x4_16) else (
gnm (x2_10 + 1) fun x2_17 =>
gnm (x4_11 + 1) fun x4_18 =>
rc x2_17 x4_18))
def m_X7_count_32 (x3_8 : Int32) (σ : gMem) : Nat → Int32 → Int32 → Option (Int32)
  | 0 => fun _ _ => none
  | n + 1 => b_X7_count_32 x3_8 σ (m_X7_count_32 x3_8 σ n)
def b_X7_count_23 (σ : gMem) (rc : Int32 → Int32 → Option (Int32)) (x2_7 : Int32) (x3_8 : Int32) : Option (Int32) :=
if 12 ≤ x3_8 then (
some x2_7) else (
gb1 (m_X7_count_32 x3_8 σ gFU x2_7 0) fun x2_12 =>
gnm (x3_8 + 1) fun x3_20 =>
rc x2_12 x3_20)
def m_X7_count_23 (σ : gMem) : Nat → Int32 → Int32 → Option (Int32)
  | 0 => fun _ _ => none
  | n + 1 => b_X7_count_23 σ (m_X7_count_23 σ n)
def m_X7_count (a0 : Int32) (σ : gMem) : Option (Int32) :=
gb1 (m_X7_in a0.toInt64 0 4 σ) fun r2 =>
if r2 = 0 then (
some (-1)) else (
if a0 = 1 then (
gb1 (m_X7_count_23 σ gFU 0 0) fun x2_9 =>
some x2_9) else (
if a0 = 0 then (
gck (inb 62 528) (
some (σ 1 (62 : Int32).toNatClampNeg))) else (
if a0 = 2 then (
gck (inb 63 528) (
some (σ 1 (63 : Int32).toNatClampNeg))) else (
if a0 = 3 then (
gck (inb 64 528) (
some (σ 1 (64 : Int32).toNatClampNeg))) else (
gck (inb 65 528) (
some (σ 1 (65 : Int32).toNatClampNeg)))))))
def m_X7_waterBy (a0 : Int32) (a1 : Int32) (a2 : Int32) (σ : gMem) : Option (Int32) :=
gck (inb (36 + a1) 528) (
gnm ((a0 + (σ 1 (36 + a1).toNatClampNeg)) + a2) fun x4_2 =>
if 0 ≤ x4_2 then (
some x4_2) else (
some 0))
def m_X7_water (a0 : Int32) (a1 : Int32) (σ : gMem) : Option (Int32) :=
gb1 (m_X7_isPlace a0 σ) fun r2 =>
if r2 = 0 then (
some (-1)) else (
gb1 (m_X7_isHour a1 σ) fun r4 =>
if r4 = 0 then (
some (-1)) else (
gck (inb (0 + a0) 528) (
gck (inb 60 528) (
gb1 (m_X7_waterBy (σ 1 (0 + a0).toNatClampNeg) a1 (σ 1 (60 : Int32).toNatClampNeg) σ) fun r8 =>
some r8))))
def m_X7_reaches (a0 : Int32) (a1 : Int32) (σ : gMem) : Option (Int32) :=
if a0 < a1 then (
some 0) else (
gck (inb 61 528) (
if (σ 1 (61 : Int32).toNatClampNeg) < (a0 - a1) then (
some 0) else (
some 1)))
def m_X7_standsBy (a0 : Int32) (a1 : Int32) (a2 : Int32) (a3 : Int32) (σ : gMem) : Option (Int32) :=
gb1 (m_X7_byKind a0 a1 a2 σ) fun r2 =>
gb1 (m_X7_reaches r2 a3 σ) fun r4 =>
if r4 = 0 then (
if a0 = 1 then (
gb1 (m_X7_reaches (a1 / 2) a3 σ) fun r6 =>
if r6 = 0 then (
some 0) else (
some 1)) else (
some 0)) else (
some 1)
def m_X7_would (a0 : Int32) (a1 : Int32) (a2 : Int32) (a3 : Int32) (σ : gMem) : Option (Int32) :=
gck (inb (66 + a0) 528) (
gck (inb 65 528) (
gck (inb (0 + a2) 528) (
gck (inb 60 528) (
gb1 (m_X7_waterBy (σ 1 (0 + a2).toNatClampNeg) a3 (σ 1 (60 : Int32).toNatClampNeg) σ) fun r6 =>
gb1 (m_X7_standsBy (σ 1 (66 + a0).toNatClampNeg) a1 (σ 1 (65 : Int32).toNatClampNeg) r6 σ) fun r8 =>
gck (izb r8) (some r8)))))
def m_X7_does (a0 : Int32) (a1 : Int32) (a2 : Int32) (σ : gMem) : Option (Int32) :=
gck (inb (74 + a0) 528) (
gb1 (m_X7_would a0 (σ 1 (74 + a0).toNatClampNeg) a1 a2 σ) fun r3 =>
gck (izb r3) (some r3))
def m_X7_stands (a0 : Int32) (a1 : Int32) (a2 : Int32) (σ : gMem) : Option (Int32) :=
gb1 (m_X7_isPerson a0 σ) fun r2 =>
if r2 = 0 then (
some (-1)) else (
gb1 (m_X7_isPlace a1 σ) fun r4 =>
if r4 = 0 then (
some (-1)) else (
gb1 (m_X7_isHour a2 σ) fun r6 =>
if r6 = 0 then (
some (-1)) else (
gb1 (m_X7_does a0 a1 a2 σ) fun r8 =>
if r8 = 0 then (
some 0) else (
some 1))))
def b_X7_hours_23 (a0 : Int32) (a1 : Int32) (σ : gMem) (rc : Int32 → Int32 → Option (Int32)) (x3_5 : Int32) (x4_6 : Int32) : Option (Int32) :=
if 24 ≤ x4_6 then (
some x3_5) else (
gb1 (m_X7_does a0 a1 x4_6 σ) fun r9 =>
if r9 = 0 then (
gnm (x3_5 ||| 0) fun x3_10 =>
gnm (x4_6 + 1) fun x4_11 =>
rc x3_10 x4_11) else (
gnm (x3_5 ||| ((1 : Int32) <<< (x4_6 &&& 31))) fun x3_12 =>
gnm (x4_6 + 1) fun x4_13 =>
rc x3_12 x4_13))
def m_X7_hours_23 (a0 : Int32) (a1 : Int32) (σ : gMem) : Nat → Int32 → Int32 → Option (Int32)
  | 0 => fun _ _ => none
  | n + 1 => b_X7_hours_23 a0 a1 σ (m_X7_hours_23 a0 a1 σ n)
def m_X7_hours (a0 : Int32) (a1 : Int32) (σ : gMem) : Option (Int32) :=
gb1 (m_X7_isPerson a0 σ) fun r2 =>
if r2 = 0 then (
some (-1)) else (
gb1 (m_X7_isPlace a1 σ) fun r4 =>
if r4 = 0 then (
some (-1)) else (
gb1 (m_X7_hours_23 a0 a1 σ gFU 0 0) fun x3_7 =>
some x3_7))
def m_X7_silted (a0 : Int32) (a1 : Int32) (σ : gMem) : Option (Int32) :=
gnm (a0 - a1) fun x2_1 =>
if (-20) ≤ x2_1 then (
if x2_1 ≤ 60 then (
some x2_1) else (
some 60)) else (
some (-20))
def b_X7_years_41 (rc : Int32 → gMem → Option (gMem)) (x3_7 : Int32) (s8 : gMem) : Option (gMem) :=
gck (inb 62 528) (
if (s8 1 (62 : Int32).toNatClampNeg) ≤ x3_7 then (
some s8) else (
gck (inb (0 + x3_7) 528) (
gck (inb (24 + x3_7) 528) (
gb1 (m_X7_silted (s8 1 (0 + x3_7).toNatClampNeg) (s8 1 (24 + x3_7).toNatClampNeg) s8) fun r14 =>
gck (inb (0 + x3_7) 528) (
gnm (gst s8 1 (0 + x3_7).toNatClampNeg r14) fun s16 =>
gnm (x3_7 + 1) fun x3_17 =>
rc x3_17 s16)))))
def m_X7_years_41 : Nat → Int32 → gMem → Option (gMem)
  | 0 => fun _ _ => none
  | n + 1 => b_X7_years_41 (m_X7_years_41 n)
def b_X7_years_34 (a0 : Int32) (rc : Int32 → gMem → Option (gMem)) (x2_4 : Int32) (s5 : gMem) : Option (gMem) :=
if a0 ≤ x2_4 then (
some s5) else (
gb1 (m_X7_years_41 gFU 0 s5) fun s9 =>
gnm (x2_4 + 1) fun x2_19 =>
rc x2_19 s9)
def m_X7_years_34 (a0 : Int32) : Nat → Int32 → gMem → Option (gMem)
  | 0 => fun _ _ => none
  | n + 1 => b_X7_years_34 a0 (m_X7_years_34 a0 n)
def m_X7_years (a0 : Int32) (σ : gMem) : Option (Int32 × gMem) :=
gb1 (m_X7_in a0.toInt64 1 30 σ) fun r2 =>
if r2 = 0 then (
some ((-1), σ)) else (
gck (inb 65 528) (
if ((σ 1 (65 : Int32).toNatClampNeg) + a0) ≤ 999 then (
gb1 (m_X7_years_34 a0 gFU 0 σ) fun s6 =>
gck (inb 65 528) (
gck (inb 65 528) (
gnm (gst s6 1 (65 : Int32).toNatClampNeg ((s6 1 (65 : Int32).toNatClampNeg) + a0)) fun s23 =>
gck (inb 65 528) (
some (s23 1 (65 : Int32).toNatClampNeg, s23))))) else (
some ((-3), σ))))
def m_X7_hourOf (a0 : Int32) (σ : gMem) : Option (Int32) :=
some (grem (a0 / 60) 24)
def b_X7_postOf_18 (a0 : Int32) (σ : gMem) (rc : Int32 → Int32 → Option (Int32)) (x2_2 : Int32) (x3_3 : Int32) : Option (Int32) :=
if a0 ≤ x3_3 then (
some x2_2) else (
gck (inb (12 + x3_3) 528) (
if (σ 1 (12 + x3_3).toNatClampNeg) ≤ 0 then (
gnm (x2_2 + 0) fun x2_6 =>
gnm (x3_3 + 1) fun x3_7 =>
rc x2_6 x3_7) else (
gnm (x2_2 + 1) fun x2_8 =>
gnm (x3_3 + 1) fun x3_9 =>
rc x2_8 x3_9)))
def m_X7_postOf_18 (a0 : Int32) (σ : gMem) : Nat → Int32 → Int32 → Option (Int32)
  | 0 => fun _ _ => none
  | n + 1 => b_X7_postOf_18 a0 σ (m_X7_postOf_18 a0 σ n)
def m_X7_postOf (a0 : Int32) (σ : gMem) : Option (Int32) :=
gck (inb (12 + a0) 528) (
if (σ 1 (12 + a0).toNatClampNeg) = 0 then (
some (-1)) else (
gb1 (m_X7_postOf_18 a0 σ gFU 0 0) fun x2_4 =>
some x2_4))
def b_X7_lengthWith_13 (a1 : Int32) (σ : gMem) (rc : Int32 → Int32 → Option (Int32)) (x3_3 : Int32) (x4_4 : Int32) : Option (Int32) :=
gck (inb 62 528) (
if (σ 1 (62 : Int32).toNatClampNeg) ≤ x4_4 then (
some x3_3) else (
gb1 (m_X7_postOf x4_4 σ) fun r8 =>
if r8 < 0 then (
gnm (x3_3 + 0) fun x3_9 =>
gnm (x4_4 + 1) fun x4_10 =>
rc x3_9 x4_10) else (
if ((a1 >>> (r8 &&& 31)) &&& 1) = 1 then (
gck (inb (12 + x4_4) 528) (
gnm (x3_3 + (σ 1 (12 + x4_4).toNatClampNeg)) fun x3_14 =>
gnm (x4_4 + 1) fun x4_15 =>
rc x3_14 x4_15)) else (
gnm (x3_3 + 0) fun x3_11 =>
gnm (x4_4 + 1) fun x4_12 =>
rc x3_11 x4_12))))
def m_X7_lengthWith_13 (a1 : Int32) (σ : gMem) : Nat → Int32 → Int32 → Option (Int32)
  | 0 => fun _ _ => none
  | n + 1 => b_X7_lengthWith_13 a1 σ (m_X7_lengthWith_13 a1 σ n)
def m_X7_lengthWith (a0 : Int32) (a1 : Int32) (σ : gMem) : Option (Int32) :=
gck (inb (74 + a0) 528) (
gnm (σ 1 (74 + a0).toNatClampNeg) fun x3_2 =>
gb1 (m_X7_lengthWith_13 a1 σ gFU x3_2 0) fun x3_5 =>
some x3_5)
def m_X7_arrives (a0 : Int32) (a1 : Int32) (a2 : Int32) (a3 : Int32) (σ : gMem) : Option (gMem) :=
gck (inb ((8 * a1) + a2) 96) (
gnm (gst σ 8 ((8 * a1) + a2).toNatClampNeg 1) fun s2 =>
gb1 (m_X7_postOf a1 s2) fun r4 =>
if r4 < 0 then (
some s2) else (
if ((a2 >>> (r4 &&& 31)) &&& 1) = 1 then (
some s2) else (
gnm (a2 ||| ((1 : Int32) <<< (r4 &&& 31))) fun x6_5 =>
gb1 (m_X7_lengthWith a0 x6_5 s2) fun r7 =>
gb1 (m_X7_hourOf a3 s2) fun r9 =>
gb1 (m_X7_would a0 r7 a1 r9 s2) fun r11 =>
if r11 = 0 then (
some s2) else (
gck (inb ((8 * a1) + x6_5) 96) (
gnm (gst s2 8 ((8 * a1) + x6_5).toNatClampNeg 1) fun s13 =>
some s13)))))
def b_X7_bits_4 (a0 : Int32) (rc : Int32 → Int32 → Option (Int32)) (x1_1 : Int32) (x2_2 : Int32) : Option (Int32) :=
if 24 ≤ x2_2 then (
some x1_1) else (
gnm (x1_1 + ((a0 >>> (x2_2 &&& 31)) &&& 1)) fun x1_4 =>
gnm (x2_2 + 1) fun x2_5 =>
rc x1_4 x2_5)
def m_X7_bits_4 (a0 : Int32) : Nat → Int32 → Int32 → Option (Int32)
  | 0 => fun _ _ => none
  | n + 1 => b_X7_bits_4 a0 (m_X7_bits_4 a0 n)
def m_X7_bits (a0 : Int32) (σ : gMem) : Option (Int32) :=
gb1 (m_X7_bits_4 a0 gFU 0 0) fun x1_3 =>
some x1_3
def b_X7_look_2 (a0 : Int32) (a1 : Int32) (rc : Int32 → gMem → Option (gMem)) (x3_1 : Int32) (s2 : gMem) : Option (gMem) :=
if 8 ≤ x3_1 then (
some s2) else (
gck (inb ((8 * a0) + x3_1) 96) (
if (s2 8 ((8 * a0) + x3_1).toNatClampNeg) = 0 then (
gnm (x3_1 + 1) fun x3_5 =>
rc x3_5 s2) else (
gb1 ((if 0 ≤ (s2 0 14) then (
some (s2 0 14)) else (
some a1)) : Option (Int32)) fun w6 =>
gnm (gst s2 0 14 w6) fun s7 =>
if (s7 0 15) < 0 then (
gb1 (m_X7_bits x3_1 s7) fun r9 =>
gnm (gst s7 0 15 r9) fun s10 =>
gnm (x3_1 + 1) fun x3_11 =>
rc x3_11 s10) else (
gb1 (m_X7_bits x3_1 s7) fun r13 =>
if (s7 0 15) ≤ r13 then (
gnm (gst s7 0 15 (s7 0 15)) fun s14 =>
gnm (x3_1 + 1) fun x3_15 =>
rc x3_15 s14) else (
gb1 (m_X7_bits x3_1 s7) fun r17 =>
gnm (gst s7 0 15 r17) fun s18 =>
gnm (x3_1 + 1) fun x3_19 =>
rc x3_19 s18)))))
def m_X7_look_2 (a0 : Int32) (a1 : Int32) : Nat → Int32 → gMem → Option (gMem)
  | 0 => fun _ _ => none
  | n + 1 => b_X7_look_2 a0 a1 (m_X7_look_2 a0 a1 n)
def m_X7_look (a0 : Int32) (a1 : Int32) (σ : gMem) : Option (gMem) :=
gb1 (m_X7_look_2 a0 a1 gFU 0 σ) fun s3 =>
some s3
def b_X7_lasts_4 (a0 : Int32) (a1 : Int32) (a2 : Int32) (a4 : Int32) (σ : gMem) (rc : Int32 → Option (Nat)) (x6_1 : Int32) : Option (Nat) :=
if a4 < x6_1 then (
some 1) else (
gb1 (m_X7_hourOf x6_1 σ) fun r4 =>
gb1 (m_X7_would a0 a1 a2 r4 σ) fun r6 =>
if r6 = 0 then (
some 0) else (
gnm (x6_1 + (60 - (grem x6_1 60))) fun x6_7 =>
rc x6_7))
def m_X7_lasts_4 (a0 : Int32) (a1 : Int32) (a2 : Int32) (a4 : Int32) (σ : gMem) : Nat → Int32 → Option (Nat)
  | 0 => fun _ => none
  | n + 1 => b_X7_lasts_4 a0 a1 a2 a4 σ (m_X7_lasts_4 a0 a1 a2 a4 σ n)
def m_X7_lasts (a0 : Int32) (a1 : Int32) (a2 : Int32) (a3 : Int32) (a4 : Int32) (σ : gMem) : Option (Int32) :=
gb1 (m_X7_lasts_4 a0 a1 a2 a4 σ gFU a3) fun t2 =>
if t2 = 0 then (
some 0) else (
some 1)
def b_X7_leaves_11 (a0 : Int32) (a1 : Int32) (a2 : Int32) (a3 : Int32) (a4 : Int32) (r2 : Int32) (rc : Int32 → gMem → Option (gMem)) (x7_3 : Int32) (s4 : gMem) : Option (gMem) :=
gck (inb 62 528) (
if (s4 1 (62 : Int32).toNatClampNeg) ≤ x7_3 then (
some s4) else (
gb1 (m_X7_pathOf a1 x7_3 s4) fun r8 =>
if r8 ≤ 0 then (
gnm (x7_3 + 1) fun x7_9 =>
rc x7_9 s4) else (
if 600 < (a3 + r8) then (
gnm (x7_3 + 1) fun x7_10 =>
rc x7_10 s4) else (
gb1 (m_X7_lasts a0 r2 a1 a4 (a4 + r8) s4) fun r12 =>
if r12 = 0 then (
gnm (x7_3 + 1) fun x7_13 =>
rc x7_13 s4) else (
gb1 (m_X7_lasts a0 r2 x7_3 a4 (a4 + r8) s4) fun r15 =>
if r15 = 0 then (
gnm (x7_3 + 1) fun x7_16 =>
rc x7_16 s4) else (
gck (inb (((96 * (grem (a3 + r8) 61)) + (8 * x7_3)) + a2) 5856) (
gnm (gst s4 9 (((96 * (grem (a3 + r8) 61)) + (8 * x7_3)) + a2).toNatClampNeg 1) fun s18 =>
gnm (x7_3 + 1) fun x7_19 =>
rc x7_19 s18)))))))
def m_X7_leaves_11 (a0 : Int32) (a1 : Int32) (a2 : Int32) (a3 : Int32) (a4 : Int32) (r2 : Int32) : Nat → Int32 → gMem → Option (gMem)
  | 0 => fun _ _ => none
  | n + 1 => b_X7_leaves_11 a0 a1 a2 a3 a4 r2 (m_X7_leaves_11 a0 a1 a2 a3 a4 r2 n)
def m_X7_leaves (a0 : Int32) (a1 : Int32) (a2 : Int32) (a3 : Int32) (a4 : Int32) (σ : gMem) : Option (gMem) :=
gb1 (m_X7_lengthWith a0 a2 σ) fun r2 =>
gb1 (m_X7_leaves_11 a0 a1 a2 a3 a4 r2 gFU 0 σ) fun s5 =>
some s5
def b_X7_go_15 (rc : Int32 → gMem → Option (gMem)) (x4_3 : Int32) (s4 : gMem) : Option (gMem) :=
if 96 ≤ x4_3 then (
some s4) else (
gck (inb x4_3 96) (
gnm (gst s4 8 x4_3.toNatClampNeg 0) fun s7 =>
gnm (x4_3 + 1) fun x4_8 =>
rc x4_8 s7))
def m_X7_go_15 : Nat → Int32 → gMem → Option (gMem)
  | 0 => fun _ _ => none
  | n + 1 => b_X7_go_15 (m_X7_go_15 n)
def b_X7_go_39 (rc : Int32 → gMem → Option (gMem)) (x4_10 : Int32) (s11 : gMem) : Option (gMem) :=
if 5856 ≤ x4_10 then (
some s11) else (
gck (inb x4_10 5856) (
gnm (gst s11 9 x4_10.toNatClampNeg 0) fun s14 =>
gnm (x4_10 + 1) fun x4_15 =>
rc x4_15 s14))
def m_X7_go_39 : Nat → Int32 → gMem → Option (gMem)
  | 0 => fun _ _ => none
  | n + 1 => b_X7_go_39 (m_X7_go_39 n)
def b_X7_go_120 (a0 : Int32) (x5_29 : Int32) (rc : Int32 → gMem → Option (gMem)) (x6_30 : Int32) (s31 : gMem) : Option (gMem) :=
if 96 ≤ x6_30 then (
some s31) else (
gck (inb x6_30 96) (
if (s31 8 x6_30.toNatClampNeg) = 0 then (
gck (inb x6_30 96) (
gnm (gst s31 8 x6_30.toNatClampNeg 0) fun s35 =>
gnm (x6_30 + 1) fun x6_36 =>
rc x6_36 s35)) else (
gb1 (m_X7_lengthWith a0 (x6_30 &&& 7) s31) fun r38 =>
gb1 (m_X7_hourOf x5_29 s31) fun r40 =>
gb1 (m_X7_would a0 r38 (x6_30 >>> (3 &&& 31)) r40 s31) fun r42 =>
if r42 = 0 then (
gck (inb x6_30 96) (
gnm (gst s31 8 x6_30.toNatClampNeg 0) fun s44 =>
gnm (x6_30 + 1) fun x6_45 =>
rc x6_45 s44)) else (
gck (inb x6_30 96) (
gnm (gst s31 8 x6_30.toNatClampNeg 1) fun s47 =>
gnm (x6_30 + 1) fun x6_48 =>
rc x6_48 s47)))))
def m_X7_go_120 (a0 : Int32) (x5_29 : Int32) : Nat → Int32 → gMem → Option (gMem)
  | 0 => fun _ _ => none
  | n + 1 => b_X7_go_120 a0 x5_29 (m_X7_go_120 a0 x5_29 n)
def b_X7_go_185 (a0 : Int32) (x4_26 : Int32) (x5_29 : Int32) (rc : Int32 → gMem → Option (gMem)) (x6_50 : Int32) (s51 : gMem) : Option (gMem) :=
if 96 ≤ x6_50 then (
some s51) else (
gnm ((96 * (grem x4_26 61)) + x6_50) fun x7_53 =>
gck (inb x7_53 5856) (
if (s51 9 x7_53.toNatClampNeg) = 0 then (
gnm (x6_50 + 1) fun x6_55 =>
rc x6_55 s51) else (
gb1 (m_X7_arrives a0 (x6_50 >>> (3 &&& 31)) (x6_50 &&& 7) x5_29 s51) fun s57 =>
gck (inb x7_53 5856) (
gnm (gst s57 9 x7_53.toNatClampNeg 0) fun s59 =>
gnm (x6_50 + 1) fun x6_60 =>
rc x6_60 s59))))
def m_X7_go_185 (a0 : Int32) (x4_26 : Int32) (x5_29 : Int32) : Nat → Int32 → gMem → Option (gMem)
  | 0 => fun _ _ => none
  | n + 1 => b_X7_go_185 a0 x4_26 x5_29 (m_X7_go_185 a0 x4_26 x5_29 n)
def b_X7_go_255 (a0 : Int32) (x4_26 : Int32) (x5_29 : Int32) (rc : Int32 → gMem → Option (gMem)) (x6_64 : Int32) (s65 : gMem) : Option (gMem) :=
if 96 ≤ x6_64 then (
some s65) else (
gck (inb x6_64 96) (
if (s65 8 x6_64.toNatClampNeg) = 0 then (
gnm (x6_64 + 1) fun x6_68 =>
rc x6_68 s65) else (
gb1 (m_X7_leaves a0 (x6_64 >>> (3 &&& 31)) (x6_64 &&& 7) x4_26 x5_29 s65) fun s70 =>
gnm (x6_64 + 1) fun x6_71 =>
rc x6_71 s70)))
def m_X7_go_255 (a0 : Int32) (x4_26 : Int32) (x5_29 : Int32) : Nat → Int32 → gMem → Option (gMem)
  | 0 => fun _ _ => none
  | n + 1 => b_X7_go_255 a0 x4_26 x5_29 (m_X7_go_255 a0 x4_26 x5_29 n)
def b_X7_go_103 (a0 : Int32) (a1 : Int32) (a2 : Int32) (rc : Int32 → gMem → Option (gMem)) (x4_26 : Int32) (s27 : gMem) : Option (gMem) :=
if 600 < x4_26 then (
some s27) else (
gnm (a2 + x4_26) fun x5_29 =>
gb1 (m_X7_go_120 a0 x5_29 gFU 0 s27) fun s32 =>
gb1 (m_X7_go_185 a0 x4_26 x5_29 gFU 0 s32) fun s52 =>
gb1 (m_X7_look a1 x4_26 s52) fun s63 =>
gb1 (m_X7_go_255 a0 x4_26 x5_29 gFU 0 s63) fun s66 =>
gnm (x4_26 + 1) fun x4_73 =>
rc x4_73 s66)
def m_X7_go_103 (a0 : Int32) (a1 : Int32) (a2 : Int32) : Nat → Int32 → gMem → Option (gMem)
  | 0 => fun _ _ => none
  | n + 1 => b_X7_go_103 a0 a1 a2 (m_X7_go_103 a0 a1 a2 n)
def m_X7_go (a0 : Int32) (a1 : Int32) (a2 : Int32) (σ : gMem) : Option (gMem) :=
gnm (gst σ 0 14 (-4)) fun s1 =>
gnm (gst s1 0 15 (-4)) fun s2 =>
gb1 (m_X7_go_15 gFU 0 s2) fun s5 =>
gb1 (m_X7_go_39 gFU 0 s5) fun s12 =>
gck (inb (82 + a0) 528) (
gb1 (m_X7_hourOf a2 s12) fun r19 =>
gb1 (m_X7_does a0 (s12 1 (82 + a0).toNatClampNeg) r19 s12) fun r21 =>
gb1 ((if r21 = 0 then (
some s12) else (
gck (inb (82 + a0) 528) (
gck (inb (8 * (s12 1 (82 + a0).toNatClampNeg)) 5856) (
gnm (gst s12 9 (8 * (s12 1 (82 + a0).toNatClampNeg)).toNatClampNeg 1) fun s25 =>
some s25)))) : Option (gMem)) fun s22 =>
gb1 (m_X7_go_103 a0 a1 a2 gFU 0 s22) fun s28 =>
some s28)
def m_X7_way (a0 : Int32) (a1 : Int32) (a2 : Int32) (a3 : Int32) (σ : gMem) : Option (Int32 × gMem) :=
gb1 (m_X7_isPerson a0 σ) fun r2 =>
if r2 = 0 then (
some ((-1), σ)) else (
gb1 (m_X7_isPlace a1 σ) fun r4 =>
if r4 = 0 then (
some ((-1), σ)) else (
gb1 (m_X7_in a2.toInt64 0 1439 σ) fun r6 =>
if r6 = 0 then (
some ((-1), σ)) else (
gb1 (m_X7_in a3.toInt64 0 1 σ) fun r8 =>
if r8 = 0 then (
some ((-1), σ)) else (
gb1 (m_X7_go a0 a1 a2 σ) fun s10 =>
if a3 = 0 then (
some (s10 0 14, s10)) else (
some (s10 0 15, s10))))))
def m_X7_isSet (a0 : Int32) (σ : gMem) : Option (Int32) :=
gck (inb 63 528) (
gb1 (m_X7_in a0.toInt64 1 ((((1 : Int32) <<< ((σ 1 (63 : Int32).toNatClampNeg) &&& 31)) - 1).toInt64) σ) fun r3 =>
gck (izb r3) (some r3))
def b_X7_race_56 (a0 : Int32) (a1 : Int32) (a2 : Int32) (rc : Int32 → Int32 → Int32 → Int32 → gMem → Option (Int32 × Int32 × gMem)) (x5_9 : Int32) (x6_10 : Int32) (x7_11 : Int32) (x8_12 : Int32) (s13 : gMem) : Option (Int32 × Int32 × gMem) :=
gck (inb 63 528) (
if (s13 1 (63 : Int32).toNatClampNeg) ≤ x8_12 then (
some (x5_9, x7_11, s13)) else (
if ((a0 >>> (x8_12 &&& 31)) &&& 1) = 1 then (
gb1 (m_X7_go x8_12 a1 a2 s13) fun s20 =>
gb1 ((if (s20 0 14) < 0 then (
some 0) else (
some 1)) : Option (Int32)) fun w21 =>
gnm (x7_11 + w21) fun x7_22 =>
if (s20 0 14) < 0 then (
gnm (x8_12 + 1) fun x8_23 =>
rc x5_9 x6_10 x7_22 x8_23 s20) else (
if x6_10 ≤ (s20 0 14) then (
gnm (x8_12 + 1) fun x8_24 =>
rc x5_9 x6_10 x7_22 x8_24 s20) else (
gnm (s20 0 14) fun x6_25 =>
gnm (x8_12 + 1) fun x8_26 =>
rc x8_12 x6_25 x7_22 x8_26 s20))) else (
gnm (x8_12 + 1) fun x8_18 =>
rc x5_9 x6_10 x7_11 x8_18 s13)))
def m_X7_race_56 (a0 : Int32) (a1 : Int32) (a2 : Int32) : Nat → Int32 → Int32 → Int32 → Int32 → gMem → Option (Int32 × Int32 × gMem)
  | 0 => fun _ _ _ _ _ => none
  | n + 1 => b_X7_race_56 a0 a1 a2 (m_X7_race_56 a0 a1 a2 n)
def m_X7_race (a0 : Int32) (a1 : Int32) (a2 : Int32) (a3 : Int32) (σ : gMem) : Option (Int32 × gMem) :=
gb1 (m_X7_isSet a0 σ) fun r2 =>
if r2 = 0 then (
some ((-1), σ)) else (
gb1 (m_X7_isPlace a1 σ) fun r4 =>
if r4 = 0 then (
some ((-1), σ)) else (
gb1 (m_X7_in a2.toInt64 0 1439 σ) fun r6 =>
if r6 = 0 then (
some ((-1), σ)) else (
gb1 (m_X7_in a3.toInt64 0 1 σ) fun r8 =>
if r8 = 0 then (
some ((-1), σ)) else (
gb3 (m_X7_race_56 a0 a1 a2 gFU (-4) 601 0 0 σ) fun x5_14 x7_15 s16 =>
if a3 = 0 then (
some (x5_14, s16)) else (
some (x7_15, s16))))))
def m_X7_need (a0 : Int32) (a1 : Int32) (a2 : Int32) (σ : gMem) : Option (Int32 × gMem) :=
gb1 (m_X7_isPerson a0 σ) fun r2 =>
if r2 = 0 then (
some ((-1), σ)) else (
gb1 (m_X7_isPlace a1 σ) fun r4 =>
if r4 = 0 then (
some ((-1), σ)) else (
gb1 (m_X7_isHour a2 σ) fun r6 =>
if r6 = 0 then (
some ((-1), σ)) else (
gck (inb 64 528) (
if (σ 1 (64 : Int32).toNatClampNeg) = 10 then (
some ((-3), σ)) else (
gck (inb 64 528) (
gnm (σ 1 (64 : Int32).toNatClampNeg) fun x4_9 =>
gck (inb (90 + x4_9) 528) (
gnm (gst σ 1 (90 + x4_9).toNatClampNeg a0) fun s11 =>
gck (inb (100 + x4_9) 528) (
gnm (gst s11 1 (100 + x4_9).toNatClampNeg a1) fun s13 =>
gck (inb (110 + x4_9) 528) (
gnm (gst s13 1 (110 + x4_9).toNatClampNeg a2) fun s15 =>
gck (inb 64 528) (
gck (inb 64 528) (
gnm (gst s15 1 (64 : Int32).toNatClampNeg ((s15 1 (64 : Int32).toNatClampNeg) + 1)) fun s18 =>
some (x4_9, s18))))))))))))
def b_X7_met_4 (σ : gMem) (rc : Int32 → Int32 → Option (Int32)) (x1_1 : Int32) (x2_2 : Int32) : Option (Int32) :=
gck (inb 64 528) (
if (σ 1 (64 : Int32).toNatClampNeg) ≤ x2_2 then (
some x1_1) else (
gck (inb (90 + x2_2) 528) (
gck (inb (100 + x2_2) 528) (
gck (inb (110 + x2_2) 528) (
gb1 (m_X7_does (σ 1 (90 + x2_2).toNatClampNeg) (σ 1 (100 + x2_2).toNatClampNeg) (σ 1 (110 + x2_2).toNatClampNeg) σ) fun r9 =>
if r9 = 0 then (
gnm (x1_1 ||| 0) fun x1_10 =>
gnm (x2_2 + 1) fun x2_11 =>
rc x1_10 x2_11) else (
gnm (x1_1 ||| ((1 : Int32) <<< (x2_2 &&& 31))) fun x1_12 =>
gnm (x2_2 + 1) fun x2_13 =>
rc x1_12 x2_13))))))
def m_X7_met_4 (σ : gMem) : Nat → Int32 → Int32 → Option (Int32)
  | 0 => fun _ _ => none
  | n + 1 => b_X7_met_4 σ (m_X7_met_4 σ n)
def m_X7_met  (σ : gMem) : Option (Int32) :=
gb1 (m_X7_met_4 σ gFU 0 0) fun x1_3 =>
some x1_3
def b_X7_needy_4 (σ : gMem) (rc : Int32 → Int32 → Option (Int32)) (x1_1 : Int32) (x2_2 : Int32) : Option (Int32) :=
gck (inb 64 528) (
if (σ 1 (64 : Int32).toNatClampNeg) ≤ x2_2 then (
some x1_1) else (
gck (inb (90 + x2_2) 528) (
gnm (x1_1 ||| ((1 : Int32) <<< ((σ 1 (90 + x2_2).toNatClampNeg) &&& 31))) fun x1_6 =>
gnm (x2_2 + 1) fun x2_7 =>
rc x1_6 x2_7)))
def m_X7_needy_4 (σ : gMem) : Nat → Int32 → Int32 → Option (Int32)
  | 0 => fun _ _ => none
  | n + 1 => b_X7_needy_4 σ (m_X7_needy_4 σ n)
def m_X7_needy  (σ : gMem) : Option (Int32) :=
gb1 (m_X7_needy_4 σ gFU 0 0) fun x1_3 =>
some x1_3
def b_X7_doesFor_7 (a0 : Int32) (σ : gMem) (rc : Int32 → Int32 → Option (Int32)) (x2_3 : Int32) (x3_4 : Int32) : Option (Int32) :=
gck (inb 64 528) (
if (σ 1 (64 : Int32).toNatClampNeg) ≤ x3_4 then (
some x2_3) else (
gck (inb (90 + x3_4) 528) (
gck (inb (100 + x3_4) 528) (
gck (inb (110 + x3_4) 528) (
gb1 (m_X7_would (σ 1 (90 + x3_4).toNatClampNeg) a0 (σ 1 (100 + x3_4).toNatClampNeg) (σ 1 (110 + x3_4).toNatClampNeg) σ) fun r11 =>
if r11 = 0 then (
gck (inb (90 + x3_4) 528) (
gnm (x2_3 &&& (((1 : Int32) <<< ((σ 1 (90 + x3_4).toNatClampNeg) &&& 31)) ^^^ (-1))) fun x2_14 =>
gnm (x3_4 + 1) fun x3_15 =>
rc x2_14 x3_15)) else (
gnm (x3_4 + 1) fun x3_12 =>
rc x2_3 x3_12))))))
def m_X7_doesFor_7 (a0 : Int32) (σ : gMem) : Nat → Int32 → Int32 → Option (Int32)
  | 0 => fun _ _ => none
  | n + 1 => b_X7_doesFor_7 a0 σ (m_X7_doesFor_7 a0 σ n)
def m_X7_doesFor (a0 : Int32) (σ : gMem) : Option (Int32) :=
gb1 (m_X7_needy σ) fun r2 =>
gb1 (m_X7_doesFor_7 a0 σ gFU r2 0) fun x2_5 =>
some x2_5
def b_X7_fewest_2 (rc : Int32 → gMem → Option (gMem)) (x1_1 : Int32) (s2 : gMem) : Option (gMem) :=
if 256 ≤ x1_1 then (
some s2) else (
if x1_1 = 0 then (
gck (inb (15616 + x1_1) 15872) (
gnm (gst s2 10 (15616 + x1_1).toNatClampNeg 0) fun s8 =>
gnm (x1_1 + 1) fun x1_9 =>
rc x1_9 s8)) else (
gck (inb (15616 + x1_1) 15872) (
gnm (gst s2 10 (15616 + x1_1).toNatClampNeg 99) fun s5 =>
gnm (x1_1 + 1) fun x1_6 =>
rc x1_6 s5)))
def m_X7_fewest_2 : Nat → Int32 → gMem → Option (gMem)
  | 0 => fun _ _ => none
  | n + 1 => b_X7_fewest_2 (m_X7_fewest_2 n)
def b_X7_fewest_55 (x1_11 : Int32) (rc : Int32 → gMem → Option (gMem)) (x2_18 : Int32) (s19 : gMem) : Option (gMem) :=
if 256 ≤ x2_18 then (
some s19) else (
gck (inb x1_11 61) (
gck (inb ((256 * (x1_11 + 1)) + (x2_18 &&& ((s19 11 x1_11.toNatClampNeg) ^^^ (-1)))) 15872) (
gnm (1 + (s19 10 ((256 * (x1_11 + 1)) + (x2_18 &&& ((s19 11 x1_11.toNatClampNeg) ^^^ (-1)))).toNatClampNeg)) fun x3_23 =>
gck (inb ((256 * (x1_11 + 1)) + x2_18) 15872) (
gnm (s19 10 ((256 * (x1_11 + 1)) + x2_18).toNatClampNeg) fun x4_25 =>
if x4_25 ≤ x3_23 then (
gck (inb ((256 * x1_11) + x2_18) 15872) (
gnm (gst s19 10 ((256 * x1_11) + x2_18).toNatClampNeg x4_25) fun s27 =>
gnm (x2_18 + 1) fun x2_28 =>
rc x2_28 s27)) else (
gck (inb ((256 * x1_11) + x2_18) 15872) (
gnm (gst s19 10 ((256 * x1_11) + x2_18).toNatClampNeg x3_23) fun s30 =>
gnm (x2_18 + 1) fun x2_31 =>
rc x2_31 s30))))))
def m_X7_fewest_55 (x1_11 : Int32) : Nat → Int32 → gMem → Option (gMem)
  | 0 => fun _ _ => none
  | n + 1 => b_X7_fewest_55 x1_11 (m_X7_fewest_55 x1_11 n)
def b_X7_fewest_38 (rc : Int32 → gMem → Option (gMem)) (x1_11 : Int32) (s12 : gMem) : Option (gMem) :=
if x1_11 < 0 then (
some s12) else (
gb1 (m_X7_doesFor x1_11 s12) fun r15 =>
gck (inb x1_11 61) (
gnm (gst s12 11 x1_11.toNatClampNeg r15) fun s17 =>
gb1 (m_X7_fewest_55 x1_11 gFU 0 s17) fun s20 =>
gnm (x1_11 + (-1)) fun x1_33 =>
rc x1_33 s20))
def m_X7_fewest_38 : Nat → Int32 → gMem → Option (gMem)
  | 0 => fun _ _ => none
  | n + 1 => b_X7_fewest_38 (m_X7_fewest_38 n)
def m_X7_fewest  (σ : gMem) : Option (gMem) :=
gb1 (m_X7_fewest_2 gFU 0 σ) fun s3 =>
gb1 (m_X7_fewest_38 gFU 60 s3) fun s13 =>
some s13
def b_X7_lengths_73 (a0 : Int32) (s3 : gMem) (rc : Int32 → Int32 → Int32 → Option (Nat × Int32)) (x2_8 : Int32) (x4_9 : Int32) (x5_10 : Int32) : Option (Nat × Int32) :=
if 60 < x5_10 then (
some (1, x5_10)) else (
gck (inb ((256 * x5_10) + x2_8) 15872) (
gck (inb x5_10 61) (
gck (inb ((256 * (x5_10 + 1)) + (x2_8 &&& ((s3 11 x5_10.toNatClampNeg) ^^^ (-1)))) 15872) (
if (s3 10 ((256 * x5_10) + x2_8).toNatClampNeg) = (1 + (s3 10 ((256 * (x5_10 + 1)) + (x2_8 &&& ((s3 11 x5_10.toNatClampNeg) ^^^ (-1)))).toNatClampNeg)) then (
gnm (x4_9 + 1) fun x4_17 =>
gck (inb x5_10 61) (
gnm (x2_8 &&& ((s3 11 x5_10.toNatClampNeg) ^^^ (-1))) fun x2_19 =>
if x4_17 = a0 then (
some (0, x5_10)) else (
gnm (x5_10 + 1) fun x5_20 =>
rc x2_19 x4_17 x5_20))) else (
gnm (x5_10 + 1) fun x5_16 =>
rc x2_8 x4_9 x5_16)))))
def m_X7_lengths_73 (a0 : Int32) (s3 : gMem) : Nat → Int32 → Int32 → Int32 → Option (Nat × Int32)
  | 0 => fun _ _ _ => none
  | n + 1 => b_X7_lengths_73 a0 s3 (m_X7_lengths_73 a0 s3 n)
def m_X7_lengths (a0 : Int32) (σ : gMem) : Option (Int32 × gMem) :=
if (-1) ≤ a0 then (
gck (inb 64 528) (
if (σ 1 (64 : Int32).toNatClampNeg) = 0 then (
some ((-2), σ)) else (
gb1 (m_X7_fewest σ) fun s3 =>
gb1 (m_X7_needy s3) fun r5 =>
gck (inb r5 15872) (
gnm (s3 10 r5.toNatClampNeg) fun x3_7 =>
if x3_7 ≤ 60 then (
if a0 = (-1) then (
if a0 = (-1) then (
some (x3_7, s3)) else (
some ((-4), s3))) else (
if a0 < x3_7 then (
gb2 (m_X7_lengths_73 a0 s3 gFU r5 (-1) 0) fun t12 x5_11 =>
if t12 = 0 then (
some (x5_11, s3)) else (
some ((-4), s3))) else (
if a0 = (-1) then (
some (x3_7, s3)) else (
some ((-4), s3))))) else (
some ((-4), s3)))))) else (
some ((-1), σ))
def b_X7_meeting_54 (x5_6 : Int32) (x6_13 : Int32) (σ : gMem) (rc : Int32 → Int32 → Option (Int32)) (x7_18 : Int32) (x8_19 : Int32) : Option (Int32) :=
gck (inb 63 528) (
if (σ 1 (63 : Int32).toNatClampNeg) ≤ x8_19 then (
some x7_18) else (
gb1 (m_X7_does x8_19 x6_13 x5_6 σ) fun r23 =>
if r23 = 0 then (
gnm (x7_18 + 0) fun x7_24 =>
gnm (x8_19 + 1) fun x8_25 =>
rc x7_24 x8_25) else (
gnm (x7_18 + 1) fun x7_26 =>
gnm (x8_19 + 1) fun x8_27 =>
rc x7_26 x8_27)))
def m_X7_meeting_54 (x5_6 : Int32) (x6_13 : Int32) (σ : gMem) : Nat → Int32 → Int32 → Option (Int32)
  | 0 => fun _ _ => none
  | n + 1 => b_X7_meeting_54 x5_6 x6_13 σ (m_X7_meeting_54 x5_6 x6_13 σ n)
def b_X7_meeting_36 (x5_6 : Int32) (σ : gMem) (rc : Int32 → Int32 → Int32 → Int32 → Option (Int32 × Int32 × Int32)) (x2_10 : Int32) (x3_11 : Int32) (x4_12 : Int32) (x6_13 : Int32) : Option (Int32 × Int32 × Int32) :=
gck (inb 62 528) (
if (σ 1 (62 : Int32).toNatClampNeg) ≤ x6_13 then (
some (x2_10, x3_11, x4_12)) else (
gb1 (m_X7_meeting_54 x5_6 x6_13 σ gFU 0 0) fun x7_20 =>
gck (inb (0 + x6_13) 528) (
if 0 ≤ (σ 1 (0 + x6_13).toNatClampNeg) then (
gnm (x6_13 + 1) fun x6_30 =>
rc x2_10 x3_11 x4_12 x6_30) else (
if x7_20 ≤ x4_12 then (
gnm (x6_13 + 1) fun x6_31 =>
rc x2_10 x3_11 x4_12 x6_31) else (
gnm (x6_13 + 1) fun x6_32 =>
rc x6_13 x5_6 x7_20 x6_32)))))
def m_X7_meeting_36 (x5_6 : Int32) (σ : gMem) : Nat → Int32 → Int32 → Int32 → Int32 → Option (Int32 × Int32 × Int32)
  | 0 => fun _ _ _ _ => none
  | n + 1 => b_X7_meeting_36 x5_6 σ (m_X7_meeting_36 x5_6 σ n)
def b_X7_meeting_26 (σ : gMem) (rc : Int32 → Int32 → Int32 → Int32 → Option (Int32 × Int32 × Int32)) (x2_3 : Int32) (x3_4 : Int32) (x4_5 : Int32) (x5_6 : Int32) : Option (Int32 × Int32 × Int32) :=
if 24 ≤ x5_6 then (
some (x2_3, x3_4, x4_5)) else (
gb3 (m_X7_meeting_36 x5_6 σ gFU x2_3 x3_4 x4_5 0) fun x2_14 x3_15 x4_16 =>
gnm (x5_6 + 1) fun x5_34 =>
rc x2_14 x3_15 x4_16 x5_34)
def m_X7_meeting_26 (σ : gMem) : Nat → Int32 → Int32 → Int32 → Int32 → Option (Int32 × Int32 × Int32)
  | 0 => fun _ _ _ _ => none
  | n + 1 => b_X7_meeting_26 σ (m_X7_meeting_26 σ n)
def m_X7_meeting (a0 : Int32) (σ : gMem) : Option (Int32) :=
gb1 (m_X7_in a0.toInt64 0 2 σ) fun r2 =>
if r2 = 0 then (
some (-1)) else (
gb3 (m_X7_meeting_26 σ gFU (-4) (-4) (-1) 0) fun x2_7 x3_8 x4_9 =>
if 0 ≤ x4_9 then (
if a0 = 0 then (
some x2_7) else (
if a0 = 1 then (
some x3_8) else (
some x4_9))) else (
some (-4)))
def b_X7_pairs_56 (a0 : Int32) (x3_5 : Int32) (x4_10 : Int32) (rc : Int32 → gMem → Option (gMem)) (x5_14 : Int32) (s15 : gMem) : Option (gMem) :=
if x4_10 ≤ x5_14 then (
some s15) else (
gnm (((1 : Int32) <<< (x4_10 &&& 31)) ||| ((1 : Int32) <<< (x5_14 &&& 31))) fun x6_17 =>
gb1 (m_X7_of x4_10 2 s15) fun r19 =>
gb1 (m_X7_of x5_14 2 s15) fun r21 =>
gnm (r19 - r21) fun x7_22 =>
if (x3_5 &&& x6_17) = x6_17 then (
if a0 < x7_22 then (
gnm (x5_14 + 1) fun x5_24 =>
rc x5_24 s15) else (
if a0 < (-x7_22) then (
gnm (x5_14 + 1) fun x5_25 =>
rc x5_25 s15) else (
gck (inb (x3_5 &&& (x6_17 ^^^ (-1))) 256) (
gck (inb x3_5 256) (
if ((s15 12 (x3_5 &&& (x6_17 ^^^ (-1))).toNatClampNeg) + 1) ≤ (s15 12 x3_5.toNatClampNeg) then (
gnm (x5_14 + 1) fun x5_28 =>
rc x5_28 s15) else (
gck (inb (x3_5 &&& (x6_17 ^^^ (-1))) 256) (
gck (inb x3_5 256) (
gnm (gst s15 12 x3_5.toNatClampNeg ((s15 12 (x3_5 &&& (x6_17 ^^^ (-1))).toNatClampNeg) + 1)) fun s31 =>
gnm (x5_14 + 1) fun x5_32 =>
rc x5_32 s31)))))))) else (
gnm (x5_14 + 1) fun x5_23 =>
rc x5_23 s15))
def m_X7_pairs_56 (a0 : Int32) (x3_5 : Int32) (x4_10 : Int32) : Nat → Int32 → gMem → Option (gMem)
  | 0 => fun _ _ => none
  | n + 1 => b_X7_pairs_56 a0 x3_5 x4_10 (m_X7_pairs_56 a0 x3_5 x4_10 n)
def b_X7_pairs_41 (a0 : Int32) (x3_5 : Int32) (rc : Int32 → gMem → Option (gMem)) (x4_10 : Int32) (s11 : gMem) : Option (gMem) :=
gck (inb 63 528) (
if (s11 1 (63 : Int32).toNatClampNeg) ≤ x4_10 then (
some s11) else (
gb1 (m_X7_pairs_56 a0 x3_5 x4_10 gFU 0 s11) fun s16 =>
gnm (x4_10 + 1) fun x4_34 =>
rc x4_34 s16))
def m_X7_pairs_41 (a0 : Int32) (x3_5 : Int32) : Nat → Int32 → gMem → Option (gMem)
  | 0 => fun _ _ => none
  | n + 1 => b_X7_pairs_41 a0 x3_5 (m_X7_pairs_41 a0 x3_5 n)
def b_X7_pairs_169 (x3_5 : Int32) (rc : Int32 → gMem → Option (gMem)) (x4_36 : Int32) (s37 : gMem) : Option (gMem) :=
gck (inb 63 528) (
if (s37 1 (63 : Int32).toNatClampNeg) ≤ x4_36 then (
some s37) else (
if ((x3_5 >>> (x4_36 &&& 31)) &&& 1) = 1 then (
gck (inb (x3_5 &&& (((1 : Int32) <<< (x4_36 &&& 31)) ^^^ (-1))) 256) (
gck (inb x3_5 256) (
if (s37 12 (x3_5 &&& (((1 : Int32) <<< (x4_36 &&& 31)) ^^^ (-1))).toNatClampNeg) ≤ (s37 12 x3_5.toNatClampNeg) then (
gnm (x4_36 + 1) fun x4_43 =>
rc x4_43 s37) else (
gck (inb (x3_5 &&& (((1 : Int32) <<< (x4_36 &&& 31)) ^^^ (-1))) 256) (
gck (inb x3_5 256) (
gnm (gst s37 12 x3_5.toNatClampNeg (s37 12 (x3_5 &&& (((1 : Int32) <<< (x4_36 &&& 31)) ^^^ (-1))).toNatClampNeg)) fun s46 =>
gnm (x4_36 + 1) fun x4_47 =>
rc x4_47 s46)))))) else (
gnm (x4_36 + 1) fun x4_40 =>
rc x4_40 s37)))
def m_X7_pairs_169 (x3_5 : Int32) : Nat → Int32 → gMem → Option (gMem)
  | 0 => fun _ _ => none
  | n + 1 => b_X7_pairs_169 x3_5 (m_X7_pairs_169 x3_5 n)
def b_X7_pairs_26 (a0 : Int32) (x2_4 : Int32) (rc : Int32 → gMem → Option (gMem)) (x3_5 : Int32) (s6 : gMem) : Option (gMem) :=
if x2_4 ≤ x3_5 then (
some s6) else (
gck (inb x3_5 256) (
gnm (gst s6 12 x3_5.toNatClampNeg 0) fun s9 =>
gb1 (m_X7_pairs_41 a0 x3_5 gFU 0 s9) fun s12 =>
gb1 (m_X7_pairs_169 x3_5 gFU 0 s12) fun s38 =>
gnm (x3_5 + 1) fun x3_49 =>
rc x3_49 s38))
def m_X7_pairs_26 (a0 : Int32) (x2_4 : Int32) : Nat → Int32 → gMem → Option (gMem)
  | 0 => fun _ _ => none
  | n + 1 => b_X7_pairs_26 a0 x2_4 (m_X7_pairs_26 a0 x2_4 n)
def m_X7_pairs (a0 : Int32) (σ : gMem) : Option (Int32 × gMem) :=
gb1 (m_X7_in a0.toInt64 0 60 σ) fun r2 =>
if r2 = 0 then (
some ((-1), σ)) else (
gck (inb 63 528) (
gnm ((1 : Int32) <<< ((σ 1 (63 : Int32).toNatClampNeg) &&& 31)) fun x2_4 =>
gb1 (m_X7_pairs_26 a0 x2_4 gFU 0 σ) fun s7 =>
gck (inb (x2_4 - 1) 256) (
some (s7 12 (x2_4 - 1).toNatClampNeg, s7))))
def b_X7_isDry_3 (a0 : Int32) (a1 : Int32) (a2 : Int32) (σ : gMem) (rc : Int32 → Option (Nat)) (x4_1 : Int32) : Option (Nat) :=
if 24 ≤ x4_1 then (
some 1) else (
gck (inb (66 + a0) 528) (
gck (inb 65 528) (
gck (inb (82 + a0) 528) (
gck (inb (0 + (σ 1 (82 + a0).toNatClampNeg)) 528) (
gb1 (m_X7_waterBy (σ 1 (0 + (σ 1 (82 + a0).toNatClampNeg)).toNatClampNeg) x4_1 a2 σ) fun r8 =>
gb1 (m_X7_standsBy (σ 1 (66 + a0).toNatClampNeg) a1 (σ 1 (65 : Int32).toNatClampNeg) r8 σ) fun r10 =>
if r10 = 0 then (
some 0) else (
gnm (x4_1 + 1) fun x4_11 =>
rc x4_11))))))
def m_X7_isDry_3 (a0 : Int32) (a1 : Int32) (a2 : Int32) (σ : gMem) : Nat → Int32 → Option (Nat)
  | 0 => fun _ => none
  | n + 1 => b_X7_isDry_3 a0 a1 a2 σ (m_X7_isDry_3 a0 a1 a2 σ n)
def m_X7_isDry (a0 : Int32) (a1 : Int32) (a2 : Int32) (σ : gMem) : Option (Int32) :=
gb1 (m_X7_isDry_3 a0 a1 a2 σ gFU 0) fun t2 =>
if t2 = 0 then (
some 0) else (
some 1)
def m_X7_dry (a0 : Int32) (a1 : Int32) (a2 : Int32) (σ : gMem) : Option (Int32) :=
gck (inb (74 + a1) 528) (
gb1 (m_X7_isDry a0 (σ 1 (74 + a1).toNatClampNeg) a2 σ) fun r3 =>
if r3 = 0 then (
some 0) else (
some 1))
def b_X7_share_43 (a0 : Int32) (x2_2 : Int32) (x3_3 : Int32) (x4_11 : Int32) (rc : Int32 → gMem → Option (gMem)) (x5_12 : Int32) (s13 : gMem) : Option (gMem) :=
if x2_2 ≤ x5_12 then (
some s13) else (
if ((x3_3 >>> (x5_12 &&& 31)) &&& 1) = 1 then (
gck (inb (x3_3 &&& (((1 : Int32) <<< (x5_12 &&& 31)) ^^^ (-1))) 256) (
gb1 (m_X7_dry x4_11 x5_12 a0 s13) fun r18 =>
gnm ((s13 12 (x3_3 &&& (((1 : Int32) <<< (x5_12 &&& 31)) ^^^ (-1))).toNatClampNeg) + r18) fun x6_19 =>
gck (inb x3_3 256) (
if x6_19 ≤ (s13 12 x3_3.toNatClampNeg) then (
gck (inb x3_3 256) (
gck (inb x3_3 256) (
gnm (gst s13 12 x3_3.toNatClampNeg (s13 12 x3_3.toNatClampNeg)) fun s23 =>
gnm (x5_12 + 1) fun x5_24 =>
rc x5_24 s23))) else (
gck (inb x3_3 256) (
gnm (gst s13 12 x3_3.toNatClampNeg x6_19) fun s26 =>
gnm (x5_12 + 1) fun x5_27 =>
rc x5_27 s26))))) else (
gnm (x5_12 + 1) fun x5_15 =>
rc x5_15 s13))
def m_X7_share_43 (a0 : Int32) (x2_2 : Int32) (x3_3 : Int32) (x4_11 : Int32) : Nat → Int32 → gMem → Option (gMem)
  | 0 => fun _ _ => none
  | n + 1 => b_X7_share_43 a0 x2_2 x3_3 x4_11 (m_X7_share_43 a0 x2_2 x3_3 x4_11 n)
def b_X7_share_10 (a0 : Int32) (x2_2 : Int32) (rc : Int32 → gMem → Option (gMem)) (x3_3 : Int32) (s4 : gMem) : Option (gMem) :=
if ((1 : Int32) <<< (x2_2 &&& 31)) ≤ x3_3 then (
some s4) else (
gb1 ((if x3_3 = 0 then (
some 0) else (
some (-1))) : Option (Int32)) fun w6 =>
gck (inb x3_3 256) (
gnm (gst s4 12 x3_3.toNatClampNeg w6) fun s8 =>
gb1 (m_X7_bits x3_3 s8) fun r10 =>
gnm (x2_2 - r10) fun x4_11 =>
gb1 (m_X7_share_43 a0 x2_2 x3_3 x4_11 gFU 0 s8) fun s14 =>
gnm (x3_3 + 1) fun x3_29 =>
rc x3_29 s14))
def m_X7_share_10 (a0 : Int32) (x2_2 : Int32) : Nat → Int32 → gMem → Option (gMem)
  | 0 => fun _ _ => none
  | n + 1 => b_X7_share_10 a0 x2_2 (m_X7_share_10 a0 x2_2 n)
def b_X7_share_142 (a0 : Int32) (x3_33 : Int32) (x4_34 : Int32) (s35 : gMem) (rc : Int32 → Option (Int32)) (x5_37 : Int32) : Option (Int32) :=
if ((x3_33 >>> (x5_37 &&& 31)) &&& 1) = 0 then (
gnm (x5_37 + 1) fun x5_39 =>
rc x5_39) else (
gck (inb (x3_33 &&& (((1 : Int32) <<< (x5_37 &&& 31)) ^^^ (-1))) 256) (
gb1 (m_X7_dry x4_34 x5_37 a0 s35) fun r42 =>
gck (inb x3_33 256) (
if ((s35 12 (x3_33 &&& (((1 : Int32) <<< (x5_37 &&& 31)) ^^^ (-1))).toNatClampNeg) + r42) = (s35 12 x3_33.toNatClampNeg) then (
some x5_37) else (
gnm (x5_37 + 1) fun x5_44 =>
rc x5_44))))
def m_X7_share_142 (a0 : Int32) (x3_33 : Int32) (x4_34 : Int32) (s35 : gMem) : Nat → Int32 → Option (Int32)
  | 0 => fun _ => none
  | n + 1 => b_X7_share_142 a0 x3_33 x4_34 s35 (m_X7_share_142 a0 x3_33 x4_34 s35 n)
def b_X7_share_133 (a0 : Int32) (x2_2 : Int32) (rc : Int32 → Int32 → gMem → Option (gMem)) (x3_33 : Int32) (x4_34 : Int32) (s35 : gMem) : Option (gMem) :=
if x2_2 ≤ x4_34 then (
some s35) else (
gb1 (m_X7_share_142 a0 x3_33 x4_34 s35 gFU 0) fun x5_38 =>
gck (inb x4_34 8) (
gnm (gst s35 13 x4_34.toNatClampNeg x5_38) fun s47 =>
gnm (x3_33 &&& (((1 : Int32) <<< (x5_38 &&& 31)) ^^^ (-1))) fun x3_48 =>
gnm (x4_34 + 1) fun x4_49 =>
rc x3_48 x4_49 s47))
def m_X7_share_133 (a0 : Int32) (x2_2 : Int32) : Nat → Int32 → Int32 → gMem → Option (gMem)
  | 0 => fun _ _ _ => none
  | n + 1 => b_X7_share_133 a0 x2_2 (m_X7_share_133 a0 x2_2 n)
def m_X7_share (a0 : Int32) (σ : gMem) : Option (gMem) :=
gck (inb 63 528) (
gnm (σ 1 (63 : Int32).toNatClampNeg) fun x2_2 =>
gb1 (m_X7_share_10 a0 x2_2 gFU 0 σ) fun s5 =>
gnm (((1 : Int32) <<< (x2_2 &&& 31)) - 1) fun x3_32 =>
gb1 (m_X7_share_133 a0 x2_2 gFU x3_32 0 s5) fun s36 =>
some s36)
def b_X7_flood_45 (a0 : Int32) (σ : gMem) (rc : Int32 → Int32 → Option (Int32)) (x3_12 : Int32) (x4_13 : Int32) : Option (Int32) :=
gck (inb 63 528) (
if (σ 1 (63 : Int32).toNatClampNeg) ≤ x4_13 then (
some x3_12) else (
gb1 (m_X7_dry x4_13 x4_13 a0 σ) fun r17 =>
gnm (x3_12 ||| ((1 - r17) <<< (x4_13 &&& 31))) fun x3_18 =>
gnm (x4_13 + 1) fun x4_19 =>
rc x3_18 x4_19))
def m_X7_flood_45 (a0 : Int32) (σ : gMem) : Nat → Int32 → Int32 → Option (Int32)
  | 0 => fun _ _ => none
  | n + 1 => b_X7_flood_45 a0 σ (m_X7_flood_45 a0 σ n)
def m_X7_flood (a0 : Int32) (a1 : Int32) (σ : gMem) : Option (Int32 × gMem) :=
gb1 (m_X7_in a0.toInt64 0 40 σ) fun r2 =>
if r2 = 0 then (
some ((-1), σ)) else (
gck (inb 63 528) (
gb1 (m_X7_in a1.toInt64 (-2) (((σ 1 (63 : Int32).toNatClampNeg) - 1).toInt64) σ) fun r5 =>
if r5 = 0 then (
some ((-1), σ)) else (
if a1 = (-1) then (
gb1 (m_X7_flood_45 a0 σ gFU 0 0) fun x3_14 =>
some (x3_14, σ)) else (
gb1 (m_X7_share a0 σ) fun s7 =>
if a1 = (-2) then (
gck (inb 63 528) (
gck (inb 63 528) (
gck (inb (((1 : Int32) <<< ((s7 1 (63 : Int32).toNatClampNeg) &&& 31)) - 1) 256) (
some ((s7 1 (63 : Int32).toNatClampNeg) - (s7 12 (((1 : Int32) <<< ((s7 1 (63 : Int32).toNatClampNeg) &&& 31)) - 1).toNatClampNeg), s7))))) else (
gck (inb a1 8) (
some (s7 13 a1.toNatClampNeg, s7)))))))
def b_X7_carried_34 (a0 : Int32) (a1 : Int32) (a2 : Int32) (σ : gMem) (rc : Int32 → Int32 → Int32 → Option (Int32 × Int32)) (x4_7 : Int32) (x5_8 : Int32) (x6_9 : Int32) : Option (Int32 × Int32) :=
gck (inb 63 528) (
if (σ 1 (63 : Int32).toNatClampNeg) ≤ x6_9 then (
some (x4_7, x5_8)) else (
gnm ((a0 >>> (x6_9 &&& 31)) &&& 1) fun x7_13 =>
gb1 (m_X7_does x6_9 a1 a2 σ) fun r15 =>
gb1 ((if r15 = 0 then (
some 0) else (
some x7_13)) : Option (Int32)) fun w16 =>
gnm (x4_7 + w16) fun x4_17 =>
gb1 (m_X7_does x6_9 a1 a2 σ) fun r19 =>
if r19 = 0 then (
gnm (x5_8 + x7_13) fun x5_20 =>
gnm (x6_9 + 1) fun x6_21 =>
rc x4_17 x5_20 x6_21) else (
gnm (x5_8 + 0) fun x5_22 =>
gnm (x6_9 + 1) fun x6_23 =>
rc x4_17 x5_22 x6_23)))
def m_X7_carried_34 (a0 : Int32) (a1 : Int32) (a2 : Int32) (σ : gMem) : Nat → Int32 → Int32 → Int32 → Option (Int32 × Int32)
  | 0 => fun _ _ _ => none
  | n + 1 => b_X7_carried_34 a0 a1 a2 σ (m_X7_carried_34 a0 a1 a2 σ n)
def b_X7_carried_110 (x4_10 : Int32) (x5_11 : Int32) (rc : Int32 → Int32 → Option (Int32)) (x6_26 : Int32) (x7_27 : Int32) : Option (Int32) :=
if x5_11 ≤ x7_27 then (
some x6_26) else (
if x4_10 ≤ x7_27 then (
gnm (x6_26 * 0) fun x6_29 =>
gnm (x7_27 + 1) fun x7_30 =>
rc x6_29 x7_30) else (
gnm (x6_26 * (x4_10 - x7_27)) fun x6_31 =>
gnm (x7_27 + 1) fun x7_32 =>
rc x6_31 x7_32))
def m_X7_carried_110 (x4_10 : Int32) (x5_11 : Int32) : Nat → Int32 → Int32 → Option (Int32)
  | 0 => fun _ _ => none
  | n + 1 => b_X7_carried_110 x4_10 x5_11 (m_X7_carried_110 x4_10 x5_11 n)
def m_X7_carried (a0 : Int32) (a1 : Int32) (a2 : Int32) (σ : gMem) : Option (Int32) :=
gb1 (m_X7_isSet a0 σ) fun r2 =>
if r2 = 0 then (
some (-1)) else (
gb1 (m_X7_isPlace a1 σ) fun r4 =>
if r4 = 0 then (
some (-1)) else (
gb1 (m_X7_isHour a2 σ) fun r6 =>
if r6 = 0 then (
some (-1)) else (
gb2 (m_X7_carried_34 a0 a1 a2 σ gFU 0 0 0) fun x4_10 x5_11 =>
gb1 (m_X7_carried_110 x4_10 x5_11 gFU 1 0) fun x6_28 =>
some x6_28)))
def b_X7_wrong_64 (a0 : Int32) (x5_10 : Int32) (σ : gMem) (rc : Int32 → Int32 → Option (Int32)) (x6_13 : Int32) (x7_14 : Int32) : Option (Int32) :=
if a0 ≤ x7_14 then (
some x6_13) else (
gck (inb (24 + x5_10) 528) (
gb1 (m_X7_silted x6_13 (σ 1 (24 + x5_10).toNatClampNeg) σ) fun r18 =>
gnm (x7_14 + 1) fun x7_19 =>
rc r18 x7_19))
def m_X7_wrong_64 (a0 : Int32) (x5_10 : Int32) (σ : gMem) : Nat → Int32 → Int32 → Option (Int32)
  | 0 => fun _ _ => none
  | n + 1 => b_X7_wrong_64 a0 x5_10 σ (m_X7_wrong_64 a0 x5_10 σ n)
def b_X7_wrong_26 (a0 : Int32) (a1 : Int32) (σ : gMem) (rc : Int32 → Int32 → Option (Int32)) (x3_5 : Int32) (x4_6 : Int32) : Option (Int32) :=
gck (inb 63 528) (
if (σ 1 (63 : Int32).toNatClampNeg) ≤ x4_6 then (
some x3_5) else (
gck (inb (82 + x4_6) 528) (
gnm (σ 1 (82 + x4_6).toNatClampNeg) fun x5_10 =>
gck (inb (0 + x5_10) 528) (
gnm (σ 1 (0 + x5_10).toNatClampNeg) fun x6_12 =>
gb1 (m_X7_wrong_64 a0 x5_10 σ gFU x6_12 0) fun x6_15 =>
gck (inb (66 + x4_6) 528) (
gck (inb (74 + x4_6) 528) (
gck (inb 65 528) (
gck (inb 60 528) (
gb1 (m_X7_waterBy x6_15 a1 (σ 1 (60 : Int32).toNatClampNeg) σ) fun r26 =>
gb1 (m_X7_standsBy (σ 1 (66 + x4_6).toNatClampNeg) (σ 1 (74 + x4_6).toNatClampNeg) ((σ 1 (65 : Int32).toNatClampNeg) + a0) r26 σ) fun r28 =>
gb1 (m_X7_does x4_6 x5_10 a1 σ) fun r30 =>
if r30 = 0 then (
gnm (x3_5 ||| 0) fun x3_31 =>
gnm (x4_6 + 1) fun x4_32 =>
rc x3_31 x4_32) else (
if r28 = 0 then (
gnm (x3_5 ||| ((1 : Int32) <<< (x4_6 &&& 31))) fun x3_35 =>
gnm (x4_6 + 1) fun x4_36 =>
rc x3_35 x4_36) else (
gnm (x3_5 ||| 0) fun x3_33 =>
gnm (x4_6 + 1) fun x4_34 =>
rc x3_33 x4_34))))))))))
def m_X7_wrong_26 (a0 : Int32) (a1 : Int32) (σ : gMem) : Nat → Int32 → Int32 → Option (Int32)
  | 0 => fun _ _ => none
  | n + 1 => b_X7_wrong_26 a0 a1 σ (m_X7_wrong_26 a0 a1 σ n)
def m_X7_wrong (a0 : Int32) (a1 : Int32) (σ : gMem) : Option (Int32) :=
gb1 (m_X7_in a0.toInt64 1 30 σ) fun r2 =>
if r2 = 0 then (
some (-1)) else (
gb1 (m_X7_isHour a1 σ) fun r4 =>
if r4 = 0 then (
some (-1)) else (
gb1 (m_X7_wrong_26 a0 a1 σ gFU 0 0) fun x3_7 =>
some x3_7))
def m_X7_clear  (σ : gMem) : Option (Int32 × gMem) :=
gck (inb 63 528) (
gnm (σ 1 (63 : Int32).toNatClampNeg) fun x1_2 =>
gck (inb 63 528) (
gnm (gst σ 1 (63 : Int32).toNatClampNeg 0) fun s4 =>
gck (inb 64 528) (
gnm (gst s4 1 (64 : Int32).toNatClampNeg 0) fun s6 =>
some (x1_2, s6))))
def b_X7_image_2 (rc : Int32 → gMem → Option (gMem)) (x1_1 : Int32) (s2 : gMem) : Option (gMem) :=
if 264 ≤ x1_1 then (
some s2) else (
gck (inb x1_1 528) (
gck (inb (264 + x1_1) 528) (
gnm (gst s2 1 (264 + x1_1).toNatClampNeg (s2 1 x1_1.toNatClampNeg)) fun s6 =>
gnm (x1_1 + 1) fun x1_7 =>
rc x1_7 s6)))
def m_X7_image_2 : Nat → Int32 → gMem → Option (gMem)
  | 0 => fun _ _ => none
  | n + 1 => b_X7_image_2 (m_X7_image_2 n)
def m_X7_image  (σ : gMem) : Option (Int32 × gMem) :=
gb1 (m_X7_image_2 gFU 0 σ) fun s3 =>
gnm (gst s3 0 1 1) fun s9 =>
some (1, s9)
def b_X7_restore_12 (rc : Int32 → gMem → Option (gMem)) (x1_1 : Int32) (s2 : gMem) : Option (gMem) :=
if 264 ≤ x1_1 then (
some s2) else (
gck (inb (264 + x1_1) 528) (
gck (inb x1_1 528) (
gnm (gst s2 1 x1_1.toNatClampNeg (s2 1 (264 + x1_1).toNatClampNeg)) fun s6 =>
gnm (x1_1 + 1) fun x1_7 =>
rc x1_7 s6)))
def m_X7_restore_12 : Nat → Int32 → gMem → Option (gMem)
  | 0 => fun _ _ => none
  | n + 1 => b_X7_restore_12 (m_X7_restore_12 n)
def m_X7_restore  (σ : gMem) : Option (Int32 × gMem) :=
if (σ 0 1) = 0 then (
some ((-4), σ)) else (
gb1 (m_X7_restore_12 gFU 0 σ) fun s3 =>
some (1, s3))
def m_X7_isSheet (a0 : Int32) (σ : gMem) : Option (Int32) :=
gb1 (m_X7_in a0.toInt64 0 3 σ) fun r2 =>
gck (izb r2) (some r2)
def m_X7_isLane (a0 : Int32) (σ : gMem) : Option (Int32) :=
gb1 (m_X7_in a0.toInt64 0 2 σ) fun r2 =>
gck (izb r2) (some r2)
def b_X7_tides_68 (a0 : Int32) (σ : gMem) (rc : Int32 → Option (Nat)) (x3_9 : Int32) : Option (Nat) :=
if 24 ≤ x3_9 then (
some 1) else (
gck (inb ((24 * a0) + x3_9) 96) (
gb1 (m_X7_in ((σ 4 ((24 * a0) + x3_9).toNatClampNeg).toInt64) (-20) 20 σ) fun r13 =>
if r13 = 0 then (
some 0) else (
gnm (x3_9 + 1) fun x3_14 =>
rc x3_14)))
def m_X7_tides_68 (a0 : Int32) (σ : gMem) : Nat → Int32 → Option (Nat)
  | 0 => fun _ => none
  | n + 1 => b_X7_tides_68 a0 σ (m_X7_tides_68 a0 σ n)
def b_X7_tides_109 (a0 : Int32) (rc : Int32 → gMem → Option (gMem)) (x3_16 : Int32) (s17 : gMem) : Option (gMem) :=
if 24 ≤ x3_16 then (
some s17) else (
gck (inb ((24 * a0) + x3_16) 96) (
gck (inb (36 + x3_16) 528) (
gnm (gst s17 1 (36 + x3_16).toNatClampNeg (s17 4 ((24 * a0) + x3_16).toNatClampNeg)) fun s21 =>
gnm (x3_16 + 1) fun x3_22 =>
rc x3_22 s21)))
def m_X7_tides_109 (a0 : Int32) : Nat → Int32 → gMem → Option (gMem)
  | 0 => fun _ _ => none
  | n + 1 => b_X7_tides_109 a0 (m_X7_tides_109 a0 n)
def m_X7_tides (a0 : Int32) (a1 : Int32) (σ : gMem) : Option (Int32 × gMem) :=
gb1 (m_X7_isSheet a0 σ) fun r2 =>
if r2 = 0 then (
some ((-1), σ)) else (
gb1 (m_X7_isLane a1 σ) fun r4 =>
if r4 = 0 then (
some ((-1), σ)) else (
gck (inb a0 4) (
if (σ 5 a0.toNatClampNeg) < 0 then (
gck (inb a0 4) (
if 0 ≤ (σ 5 a0.toNatClampNeg) then (
some ((-12), σ)) else (
some ((-11), σ)))) else (
gck (inb a0 4) (
if (σ 5 a0.toNatClampNeg) = a1 then (
gck (inb a0 4) (
if 24 ≤ (σ 6 a0.toNatClampNeg) then (
gb1 (m_X7_tides_68 a0 σ gFU 0) fun t10 =>
if t10 = 0 then (
some ((-2), σ)) else (
gb1 (m_X7_tides_109 a0 gFU 0 σ) fun s18 =>
some (1, s18))) else (
some ((-13), σ)))) else (
gck (inb a0 4) (
if 0 ≤ (σ 5 a0.toNatClampNeg) then (
some ((-12), σ)) else (
some ((-11), σ)))))))))
def b_X7_sheet_46 (a0 : Int32) (a2 : Int32) (rc : Int32 → gMem → Option (gMem)) (x4_9 : Int32) (s10 : gMem) : Option (gMem) :=
if a2 ≤ x4_9 then (
some s10) else (
gck (inb ((24 * a0) + x4_9) 96) (
gnm (gst s10 4 ((24 * a0) + x4_9).toNatClampNeg 0) fun s13 =>
gnm (x4_9 + 1) fun x4_14 =>
rc x4_14 s13))
def m_X7_sheet_46 (a0 : Int32) (a2 : Int32) : Nat → Int32 → gMem → Option (gMem)
  | 0 => fun _ _ => none
  | n + 1 => b_X7_sheet_46 a0 a2 (m_X7_sheet_46 a0 a2 n)
def m_X7_sheet (a0 : Int32) (a1 : Int32) (a2 : Int32) (σ : gMem) : Option (Int32 × gMem) :=
gb1 (m_X7_isSheet a0 σ) fun r2 =>
if r2 = 0 then (
some ((-1), σ)) else (
gb1 (m_X7_isLane a1 σ) fun r4 =>
if r4 = 0 then (
some ((-1), σ)) else (
if a2 ≤ 24 then (
if 0 ≤ a2 then (
gck (inb a0 4) (
gnm (gst σ 5 a0.toNatClampNeg a1) fun s6 =>
gck (inb a0 4) (
gnm (gst s6 6 a0.toNatClampNeg a2) fun s8 =>
gb1 (m_X7_sheet_46 a0 a2 gFU 0 s8) fun s11 =>
some (a2, s11)))) else (
some ((-14), σ))) else (
some ((-1), σ))))
def m_X7_drop (a0 : Int32) (σ : gMem) : Option (Int32 × gMem) :=
gb1 (m_X7_isSheet a0 σ) fun r2 =>
if r2 = 0 then (
some ((-1), σ)) else (
gck (inb a0 4) (
if 0 ≤ (σ 5 a0.toNatClampNeg) then (
gck (inb a0 4) (
gnm (gst σ 5 a0.toNatClampNeg (-1)) fun s5 =>
gck (inb a0 4) (
some (s5 6 a0.toNatClampNeg, s5)))) else (
some ((-11), σ))))
def m_X7_item (a0 : Int32) (a1 : Int32) (a2 : Int32) (a3 : Int32) (σ : gMem) : Option (Int32 × gMem) :=
gb1 (m_X7_isSheet a0 σ) fun r2 =>
if r2 = 0 then (
some ((-1), σ)) else (
gb1 (m_X7_isLane a1 σ) fun r4 =>
if r4 = 0 then (
some ((-1), σ)) else (
gck (inb a0 4) (
if (σ 5 a0.toNatClampNeg) < 0 then (
gck (inb a0 4) (
if 0 ≤ (σ 5 a0.toNatClampNeg) then (
some ((-12), σ)) else (
some ((-11), σ)))) else (
gck (inb a0 4) (
if (σ 5 a0.toNatClampNeg) = a1 then (
gck (inb a0 4) (
gb1 (m_X7_in a2.toInt64 0 (((σ 6 a0.toNatClampNeg) - 1).toInt64) σ) fun r10 =>
if r10 = 0 then (
some ((-13), σ)) else (
if a1 = 0 then (
gck (inb ((24 * a0) + a2) 96) (
gnm (gst σ 4 ((24 * a0) + a2).toNatClampNeg a3.toInt8.toInt32) fun s16 =>
some (1, s16))) else (
if a1 = 1 then (
gck (inb ((24 * a0) + a2) 96) (
gnm (gst σ 4 ((24 * a0) + a2).toNatClampNeg a3.toInt16.toInt32) fun s14 =>
some (1, s14))) else (
gck (inb ((24 * a0) + a2) 96) (
gnm (gst σ 4 ((24 * a0) + a2).toNatClampNeg a3) fun s12 =>
some (1, s12))))))) else (
gck (inb a0 4) (
if 0 ≤ (σ 5 a0.toNatClampNeg) then (
some ((-12), σ)) else (
some ((-11), σ)))))))))
def b_X7_copy_110 (a0 : Int32) (a1 : Int32) (a4 : Int32) (rc : Int32 → gMem → Option (gMem)) (x6_11 : Int32) (s12 : gMem) : Option (gMem) :=
if a4 ≤ x6_11 then (
some s12) else (
gck (inb (((24 * a0) + a1) + x6_11) 96) (
gck (inb x6_11 24) (
gnm (gst s12 7 x6_11.toNatClampNeg (s12 4 (((24 * a0) + a1) + x6_11).toNatClampNeg)) fun s16 =>
gnm (x6_11 + 1) fun x6_17 =>
rc x6_17 s16)))
def m_X7_copy_110 (a0 : Int32) (a1 : Int32) (a4 : Int32) : Nat → Int32 → gMem → Option (gMem)
  | 0 => fun _ _ => none
  | n + 1 => b_X7_copy_110 a0 a1 a4 (m_X7_copy_110 a0 a1 a4 n)
def b_X7_copy_147 (a2 : Int32) (a3 : Int32) (a4 : Int32) (rc : Int32 → gMem → Option (gMem)) (x6_19 : Int32) (s20 : gMem) : Option (gMem) :=
if a4 ≤ x6_19 then (
some s20) else (
gck (inb x6_19 24) (
gck (inb (((24 * a2) + a3) + x6_19) 96) (
gnm (gst s20 4 (((24 * a2) + a3) + x6_19).toNatClampNeg (s20 7 x6_19.toNatClampNeg)) fun s24 =>
gnm (x6_19 + 1) fun x6_25 =>
rc x6_25 s24)))
def m_X7_copy_147 (a2 : Int32) (a3 : Int32) (a4 : Int32) : Nat → Int32 → gMem → Option (gMem)
  | 0 => fun _ _ => none
  | n + 1 => b_X7_copy_147 a2 a3 a4 (m_X7_copy_147 a2 a3 a4 n)
def m_X7_copy (a0 : Int32) (a1 : Int32) (a2 : Int32) (a3 : Int32) (a4 : Int32) (σ : gMem) : Option (Int32 × gMem) :=
gb1 (m_X7_isSheet a0 σ) fun r2 =>
if r2 = 0 then (
some ((-1), σ)) else (
gb1 (m_X7_isSheet a2 σ) fun r4 =>
if r4 = 0 then (
some ((-1), σ)) else (
gck (inb a0 4) (
if (σ 5 a0.toNatClampNeg) < 0 then (
some ((-11), σ)) else (
gck (inb a2 4) (
if 0 ≤ (σ 5 a2.toNatClampNeg) then (
gck (inb a0 4) (
gck (inb a2 4) (
if (σ 5 a0.toNatClampNeg) = (σ 5 a2.toNatClampNeg) then (
if a1 < 0 then (
some ((-13), σ)) else (
if a3 < 0 then (
some ((-13), σ)) else (
if a4 < 0 then (
some ((-13), σ)) else (
gck (inb a0 4) (
if 0 < (lg_cmp (a1.toInt64 + a4.toInt64) ((σ 6 a0.toNatClampNeg).toInt64)) then (
some ((-13), σ)) else (
gck (inb a2 4) (
if (lg_cmp (a3.toInt64 + a4.toInt64) ((σ 6 a2.toNatClampNeg).toInt64)) ≤ 0 then (
gb1 (m_X7_copy_110 a0 a1 a4 gFU 0 σ) fun s13 =>
gb1 (m_X7_copy_147 a2 a3 a4 gFU 0 s13) fun s21 =>
some (a4, s21)) else (
some ((-13), σ))))))))) else (
some ((-12), σ))))) else (
some ((-11), σ)))))))
