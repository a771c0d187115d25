def w_J7_fill13_5b (post : CS → Prop) (K5 : CS → Int32 → Int32 → Int32 → Prop) (C : CS) (x1 : Int32) (x2 : Int32) (x3 : Int32) : Prop := ((x3 ≤ x2 → (post C)) ∧ (¬ x3 ≤ x2 → (vp_in x2 1024 ∧ K5 (cru C 13 (upd (cr C 13) (Int32.toNatClampNeg x2) x1)) x1 (x2 + 1) x3)))
def w_J7_fill13_5 (post : CS → Prop) : Nat → CS → Int32 → Int32 → Int32 → Prop
  | 0 => fun _ _ _ _ => False
  | n + 1 => fun C x1 x2 x3 => w_J7_fill13_5b post (w_J7_fill13_5 post n) C x1 x2 x3
def w_J7_fill13 (post : CS → Prop) (C : CS) (x1 : Int32) : Prop := ∃ n1, w_J7_fill13_5 post  n1 C x1 (0 : Int32) (nI 1024)
def w_J7_fill14_5b (post : CS → Prop) (K5 : CS → Int32 → Int32 → Int32 → Prop) (C : CS) (x1 : Int32) (x2 : Int32) (x3 : Int32) : Prop := ((x3 ≤ x2 → (post C)) ∧ (¬ x3 ≤ x2 → (vp_in x2 401 ∧ K5 (cru C 14 (upd (cr C 14) (Int32.toNatClampNeg x2) x1)) x1 (x2 + 1) x3)))
def w_J7_fill14_5 (post : CS → Prop) : Nat → CS → Int32 → Int32 → Int32 → Prop
  | 0 => fun _ _ _ _ => False
  | n + 1 => fun C x1 x2 x3 => w_J7_fill14_5b post (w_J7_fill14_5 post n) C x1 x2 x3
def w_J7_fill14 (post : CS → Prop) (C : CS) (x1 : Int32) : Prop := ∃ n1, w_J7_fill14_5 post  n1 C x1 (0 : Int32) (nI 401)
def w_X0_layOut4_26b (post : CS → Prop) (K12 : CS → Int32 → Option Nat → Prop) (K26 : CS → Int32 → Option Nat → Int32 → Prop) (C : CS) (x2 : Int32) (o3 : Option Nat) (x4 : Int32) : Prop := ((x2 ≤ x4 → (∃ v6, o3 = some v6 ∧ v6 < cn C ∧ ∀ w8, w8 = cp C v6 → K12 C (if (cf C v6 2) < x2 then (cf C v6 2) else x2) w8)) ∧ (¬ x2 ≤ x4 → (∃ v9, o3 = some v9 ∧ v9 < cn C ∧ vp_in (x4 - (cf C v9 2)) (ck C v9) ∧ vp_in x4 400 ∧ K26 (cru (cru C 5 (upd (cr C 5) (Int32.toNatClampNeg x4) ((cv C v9) (Int32.toNatClampNeg (x4 - (cf C v9 2)))))) 6 (upd (cr C 6) (Int32.toNatClampNeg x4) ((cw C v9) (Int32.toNatClampNeg (x4 - (cf C v9 2)))))) x2 (some v9) (x4 + 1))))
def w_X0_layOut4_26 (post : CS → Prop) (K12 : CS → Int32 → Option Nat → Prop) : Nat → CS → Int32 → Option Nat → Int32 → Prop
  | 0 => fun _ _ _ _ => False
  | n + 1 => fun C x2 o3 x4 => w_X0_layOut4_26b post K12 (w_X0_layOut4_26 post K12 n) C x2 o3 x4
def w_X0_layOut4_12b (post : CS → Prop) (K12 : CS → Int32 → Option Nat → Prop) (C : CS) (x2 : Int32) (o3 : Option Nat) : Prop := ((o3 = none → (post C)) ∧ (¬ o3 = none → (((x2 ≤ 0 → (post C)) ∧ (¬ x2 ≤ 0 → (∃ v3, o3 = some v3 ∧ v3 < cn C ∧ ∃ n5, w_X0_layOut4_26 post K12 n5 C x2 (some v3) (cf C v3 2)))))))
def w_X0_layOut4_12 (post : CS → Prop) : Nat → CS → Int32 → Option Nat → Prop
  | 0 => fun _ _ _ => False
  | n + 1 => fun C x2 o3 => w_X0_layOut4_12b post (w_X0_layOut4_12 post n) C x2 o3
def w_X0_layOut4 (post : CS → Prop) (C : CS) (v1 : Nat) : Prop := v1 < cn C ∧ ∃ n2, w_X0_layOut4_12 post  n2 (czu C 3 (cf C v1 3)) (cf C v1 3) (some v1)
def w_X0_layOut8_26b (post : CS → Prop) (K12 : CS → Int32 → Option Nat → Prop) (K26 : CS → Int32 → Option Nat → Int32 → Prop) (C : CS) (x2 : Int32) (o3 : Option Nat) (x4 : Int32) : Prop := ((x2 ≤ x4 → (∃ v6, o3 = some v6 ∧ v6 < cn C ∧ ∀ w8, w8 = cp C v6 → K12 C (if (cf C v6 2) < x2 then (cf C v6 2) else x2) w8)) ∧ (¬ x2 ≤ x4 → (∃ v9, o3 = some v9 ∧ v9 < cn C ∧ vp_in (x4 - (cf C v9 2)) (ck C v9) ∧ vp_in x4 400 ∧ K26 (cru (cru C 9 (upd (cr C 9) (Int32.toNatClampNeg x4) ((cv C v9) (Int32.toNatClampNeg (x4 - (cf C v9 2)))))) 10 (upd (cr C 10) (Int32.toNatClampNeg x4) ((cw C v9) (Int32.toNatClampNeg (x4 - (cf C v9 2)))))) x2 (some v9) (x4 + 1))))
def w_X0_layOut8_26 (post : CS → Prop) (K12 : CS → Int32 → Option Nat → Prop) : Nat → CS → Int32 → Option Nat → Int32 → Prop
  | 0 => fun _ _ _ _ => False
  | n + 1 => fun C x2 o3 x4 => w_X0_layOut8_26b post K12 (w_X0_layOut8_26 post K12 n) C x2 o3 x4
def w_X0_layOut8_12b (post : CS → Prop) (K12 : CS → Int32 → Option Nat → Prop) (C : CS) (x2 : Int32) (o3 : Option Nat) : Prop := ((o3 = none → (post C)) ∧ (¬ o3 = none → (((x2 ≤ 0 → (post C)) ∧ (¬ x2 ≤ 0 → (∃ v3, o3 = some v3 ∧ v3 < cn C ∧ ∃ n5, w_X0_layOut8_26 post K12 n5 C x2 (some v3) (cf C v3 2)))))))
def w_X0_layOut8_12 (post : CS → Prop) : Nat → CS → Int32 → Option Nat → Prop
  | 0 => fun _ _ _ => False
  | n + 1 => fun C x2 o3 => w_X0_layOut8_12b post (w_X0_layOut8_12 post n) C x2 o3
def w_X0_layOut8 (post : CS → Prop) (C : CS) (v1 : Nat) : Prop := v1 < cn C ∧ ∃ n2, w_X0_layOut8_12 post  n2 (czu C 4 (cf C v1 3)) (cf C v1 3) (some v1)
def w_X0_countBelow_26 (post : Int32 → CS → Prop) (K6 : CS → Int32 → Int32 → Int32 → Int32 → Prop) (C : CS) (x2 : Int32) (x3 : Int32) (x4 : Int32) (x5 : Int32) : Prop := K6 C x2 x3 x4 (x5 + 1)
def w_X0_countBelow_6b (post : Int32 → CS → Prop) (K6 : CS → Int32 → Int32 → Int32 → Int32 → Prop) (C : CS) (x2 : Int32) (x3 : Int32) (x4 : Int32) (x5 : Int32) : Prop := ((x2 ≤ x5 → (post x4 C)) ∧ (¬ x2 ≤ x5 → (vp_in x5 400 ∧ ((x3 ≤ ((cr C 5) (Int32.toNatClampNeg x5)) → (w_X0_countBelow_26 post K6 C x2 x3 x4 x5)) ∧ (¬ x3 ≤ ((cr C 5) (Int32.toNatClampNeg x5)) → (w_X0_countBelow_26 post K6 C x2 x3 (x4 + 1) x5))))))
def w_X0_countBelow_6 (post : Int32 → CS → Prop) : Nat → CS → Int32 → Int32 → Int32 → Int32 → Prop
  | 0 => fun _ _ _ _ _ => False
  | n + 1 => fun C x2 x3 x4 x5 => w_X0_countBelow_6b post (w_X0_countBelow_6 post n) C x2 x3 x4 x5
def w_X0_countBelow (post : Int32 → CS → Prop) (C : CS) (x1 : Int32) (x2 : Int32) (x3 : Int32) : Prop := ∃ n1, w_X0_countBelow_6 post  n1 C x2 x3 (0 : Int32) x1
def w_X0_countWithin_38 (post : Int32 → CS → Prop) (K6 : CS → Int32 → Int32 → Int32 → Int32 → Int32 → Prop) (C : CS) (x2 : Int32) (x3 : Int32) (x4 : Int32) (x5 : Int32) (x6 : Int32) : Prop := K6 C x2 x3 x4 x5 (x6 + 1)
def w_X0_countWithin_6b (post : Int32 → CS → Prop) (K6 : CS → Int32 → Int32 → Int32 → Int32 → Int32 → Prop) (C : CS) (x2 : Int32) (x3 : Int32) (x4 : Int32) (x5 : Int32) (x6 : Int32) : Prop := ((x2 ≤ x6 → (post x5 C)) ∧ (¬ x2 ≤ x6 → (vp_in x6 400 ∧ ((((cr C 5) (Int32.toNatClampNeg x6)) < x3 → (w_X0_countWithin_38 post K6 C x2 x3 x4 x5 x6)) ∧ (¬ ((cr C 5) (Int32.toNatClampNeg x6)) < x3 → (((x4 < ((cr C 5) (Int32.toNatClampNeg x6)) → (w_X0_countWithin_38 post K6 C x2 x3 x4 x5 x6)) ∧ (¬ x4 < ((cr C 5) (Int32.toNatClampNeg x6)) → (w_X0_countWithin_38 post K6 C x2 x3 x4 (x5 + 1) x6)))))))))
def w_X0_countWithin_6 (post : Int32 → CS → Prop) : Nat → CS → Int32 → Int32 → Int32 → Int32 → Int32 → Prop
  | 0 => fun _ _ _ _ _ _ => False
  | n + 1 => fun C x2 x3 x4 x5 x6 => w_X0_countWithin_6b post (w_X0_countWithin_6 post n) C x2 x3 x4 x5 x6
def w_X0_countWithin (post : Int32 → CS → Prop) (C : CS) (x1 : Int32) (x2 : Int32) (x3 : Int32) (x4 : Int32) : Prop := ∃ n1, w_X0_countWithin_6 post  n1 C x2 x3 x4 (0 : Int32) x1
def w_X0_weighBelow_36 (post : Int64 → CS → Prop) (K6 : CS → Int32 → Int32 → Int64 → Int32 → Prop) (C : CS) (x2 : Int32) (x3 : Int32) (y4 : Int64) (x6 : Int32) : Prop := K6 C x2 x3 y4 (x6 + 1)
def w_X0_weighBelow_6b (post : Int64 → CS → Prop) (K6 : CS → Int32 → Int32 → Int64 → Int32 → Prop) (C : CS) (x2 : Int32) (x3 : Int32) (y4 : Int64) (x6 : Int32) : Prop := ((x2 ≤ x6 → (post y4 C)) ∧ (¬ x2 ≤ x6 → (vp_in x6 400 ∧ ((x3 ≤ ((cr C 5) (Int32.toNatClampNeg x6)) → (w_X0_weighBelow_36 post K6 C x2 x3 y4 x6)) ∧ (¬ x3 ≤ ((cr C 5) (Int32.toNatClampNeg x6)) → (w_X0_weighBelow_36 post K6 C x2 x3 (y4 + (Int32.toInt64 ((cr C 6) (Int32.toNatClampNeg x6)))) x6))))))
def w_X0_weighBelow_6 (post : Int64 → CS → Prop) : Nat → CS → Int32 → Int32 → Int64 → Int32 → Prop
  | 0 => fun _ _ _ _ _ => False
  | n + 1 => fun C x2 x3 y4 x6 => w_X0_weighBelow_6b post (w_X0_weighBelow_6 post n) C x2 x3 y4 x6
def w_X0_weighBelow (post : Int64 → CS → Prop) (C : CS) (x1 : Int32) (x2 : Int32) (x3 : Int32) : Prop := ∃ n1, w_X0_weighBelow_6 post  n1 C x2 x3 (0 : Int64) x1
def w_X0_leastFrom_52 (post : Int32 → CS → Prop) (K7 : CS → Int32 → Int32 → Int32 → Int32 → Prop) (C : CS) (x2 : Int32) (x3 : Int32) (x4 : Int32) (x5 : Int32) : Prop := K7 C x2 x3 x4 (x5 + 1)
def w_X0_leastFrom_43 (post : Int32 → CS → Prop) (K7 : CS → Int32 → Int32 → Int32 → Int32 → Prop) (C : CS) (x2 : Int32) (x3 : Int32) (x5 : Int32) : Prop := vp_in x5 400 ∧ w_X0_leastFrom_52 post K7 C x2 x3 ((cr C 5) (Int32.toNatClampNeg x5)) x5
def w_X0_leastFrom_7b (post : Int32 → CS → Prop) (K7 : CS → Int32 → Int32 → Int32 → Int32 → Prop) (C : CS) (x2 : Int32) (x3 : Int32) (x4 : Int32) (x5 : Int32) : Prop := ((x2 ≤ x5 → (post x4 C)) ∧ (¬ x2 ≤ x5 → (vp_in x5 400 ∧ ((((cr C 5) (Int32.toNatClampNeg x5)) < x3 → (w_X0_leastFrom_52 post K7 C x2 x3 x4 x5)) ∧ (¬ ((cr C 5) (Int32.toNatClampNeg x5)) < x3 → (((x4 = (-6 : Int32) → (w_X0_leastFrom_43 post K7 C x2 x3 x5)) ∧ (¬ x4 = (-6 : Int32) → (((x4 ≤ ((cr C 5) (Int32.toNatClampNeg x5)) → (w_X0_leastFrom_52 post K7 C x2 x3 x4 x5)) ∧ (¬ x4 ≤ ((cr C 5) (Int32.toNatClampNeg x5)) → (w_X0_leastFrom_43 post K7 C x2 x3 x5))))))))))))
def w_X0_leastFrom_7 (post : Int32 → CS → Prop) : Nat → CS → Int32 → Int32 → Int32 → Int32 → Prop
  | 0 => fun _ _ _ _ _ => False
  | n + 1 => fun C x2 x3 x4 x5 => w_X0_leastFrom_7b post (w_X0_leastFrom_7 post n) C x2 x3 x4 x5
def w_X0_leastFrom (post : Int32 → CS → Prop) (C : CS) (x1 : Int32) (x2 : Int32) (x3 : Int32) : Prop := ∃ n1, w_X0_leastFrom_7 post  n1 C x2 x3 (-6 : Int32) x1
def w_X0_greatestTo_52 (post : Int32 → CS → Prop) (K7 : CS → Int32 → Int32 → Int32 → Int32 → Prop) (C : CS) (x2 : Int32) (x3 : Int32) (x4 : Int32) (x5 : Int32) : Prop := K7 C x2 x3 x4 (x5 + 1)
def w_X0_greatestTo_43 (post : Int32 → CS → Prop) (K7 : CS → Int32 → Int32 → Int32 → Int32 → Prop) (C : CS) (x2 : Int32) (x3 : Int32) (x5 : Int32) : Prop := vp_in x5 400 ∧ w_X0_greatestTo_52 post K7 C x2 x3 ((cr C 5) (Int32.toNatClampNeg x5)) x5
def w_X0_greatestTo_7b (post : Int32 → CS → Prop) (K7 : CS → Int32 → Int32 → Int32 → Int32 → Prop) (C : CS) (x2 : Int32) (x3 : Int32) (x4 : Int32) (x5 : Int32) : Prop := ((x2 ≤ x5 → (post x4 C)) ∧ (¬ x2 ≤ x5 → (vp_in x5 400 ∧ ((x3 < ((cr C 5) (Int32.toNatClampNeg x5)) → (w_X0_greatestTo_52 post K7 C x2 x3 x4 x5)) ∧ (¬ x3 < ((cr C 5) (Int32.toNatClampNeg x5)) → (((x4 = (-6 : Int32) → (w_X0_greatestTo_43 post K7 C x2 x3 x5)) ∧ (¬ x4 = (-6 : Int32) → (((((cr C 5) (Int32.toNatClampNeg x5)) ≤ x4 → (w_X0_greatestTo_52 post K7 C x2 x3 x4 x5)) ∧ (¬ ((cr C 5) (Int32.toNatClampNeg x5)) ≤ x4 → (w_X0_greatestTo_43 post K7 C x2 x3 x5))))))))))))
def w_X0_greatestTo_7 (post : Int32 → CS → Prop) : Nat → CS → Int32 → Int32 → Int32 → Int32 → Prop
  | 0 => fun _ _ _ _ _ => False
  | n + 1 => fun C x2 x3 x4 x5 => w_X0_greatestTo_7b post (w_X0_greatestTo_7 post n) C x2 x3 x4 x5
def w_X0_greatestTo (post : Int32 → CS → Prop) (C : CS) (x1 : Int32) (x2 : Int32) (x3 : Int32) : Prop := ∃ n1, w_X0_greatestTo_7 post  n1 C x2 x3 (-6 : Int32) x1
def w_X0_countOnes_5b (post : Int32 → CS → Prop) (K5 : CS → Int32 → Int32 → Int32 → Int32 → Prop) (C : CS) (x1 : Int32) (x2 : Int32) (x3 : Int32) (x4 : Int32) : Prop := ((x2 ≤ x4 → (post x3 C)) ∧ (¬ x2 ≤ x4 → (vp_in x4 400 ∧ K5 C x1 x2 (x3 + (((((cr C 5) (Int32.toNatClampNeg x4))).toUInt32 >>> ((x1).toUInt32 &&& Int32.toUInt32 31)).toInt32 &&& (1 : Int32))) (x4 + 1))))
def w_X0_countOnes_5 (post : Int32 → CS → Prop) : Nat → CS → Int32 → Int32 → Int32 → Int32 → Prop
  | 0 => fun _ _ _ _ _ => False
  | n + 1 => fun C x1 x2 x3 x4 => w_X0_countOnes_5b post (w_X0_countOnes_5 post n) C x1 x2 x3 x4
def w_X0_countOnes (post : Int32 → CS → Prop) (C : CS) (x1 : Int32) (x2 : Int32) : Prop := ∃ n1, w_X0_countOnes_5 post  n1 C x1 x2 (0 : Int32) (0 : Int32)
def w_X0_splitBy_68b (post : CS → Prop) (K68 : CS → Int32 → Int32 → Int32 → Prop) (C : CS) (x2 : Int32) (x3 : Int32) (x4 : Int32) : Prop := ((x3 ≤ x4 → (post C)) ∧ (¬ x3 ≤ x4 → (vp_in x4 400 ∧ vp_in (x2 + x4) 400 ∧ K68 (cru C 5 (upd (cr C 5) (Int32.toNatClampNeg (x2 + x4)) ((cr C 7) (Int32.toNatClampNeg x4)))) x2 x3 (x4 + 1))))
def w_X0_splitBy_68 (post : CS → Prop) : Nat → CS → Int32 → Int32 → Int32 → Prop
  | 0 => fun _ _ _ _ => False
  | n + 1 => fun C x2 x3 x4 => w_X0_splitBy_68b post (w_X0_splitBy_68 post n) C x2 x3 x4
def w_X0_splitBy_59 (post : CS → Prop) (K7 : CS → Int32 → Int32 → Int32 → Int32 → Prop) (C : CS) (x1 : Int32) (x2 : Int32) (x3 : Int32) (x4 : Int32) : Prop := K7 C x1 x2 x3 (x4 + 1)
def w_X0_splitBy_7b (post : CS → Prop) (K7 : CS → Int32 → Int32 → Int32 → Int32 → Prop) (C : CS) (x1 : Int32) (x2 : Int32) (x3 : Int32) (x4 : Int32) : Prop := (((cz C 3) ≤ x4 → (∃ n2, w_X0_splitBy_68 post  n2 C x2 x3 (0 : Int32))) ∧ (¬ (cz C 3) ≤ x4 → (vp_in x4 400 ∧ ((¬ (((((cr C 5) (Int32.toNatClampNeg x4))).toUInt32 >>> ((x1).toUInt32 &&& Int32.toUInt32 31)).toInt32 &&& (1 : Int32)) = 0 → (vp_in x3 400 ∧ w_X0_splitBy_59 post K7 (cru C 7 (upd (cr C 7) (Int32.toNatClampNeg x3) ((cr C 5) (Int32.toNatClampNeg x4)))) x1 x2 (x3 + 1) x4)) ∧ ((((((cr C 5) (Int32.toNatClampNeg x4))).toUInt32 >>> ((x1).toUInt32 &&& Int32.toUInt32 31)).toInt32 &&& (1 : Int32)) = 0 → (vp_in x2 400 ∧ w_X0_splitBy_59 post K7 (cru C 5 (upd (cr C 5) (Int32.toNatClampNeg x2) ((cr C 5) (Int32.toNatClampNeg x4)))) x1 (x2 + 1) x3 x4))))))
def w_X0_splitBy_7 (post : CS → Prop) : Nat → CS → Int32 → Int32 → Int32 → Int32 → Prop
  | 0 => fun _ _ _ _ _ => False
  | n + 1 => fun C x1 x2 x3 x4 => w_X0_splitBy_7b post (w_X0_splitBy_7 post n) C x1 x2 x3 x4
def w_X0_splitBy (post : CS → Prop) (C : CS) (x1 : Int32) : Prop := ∃ n1, w_X0_splitBy_7 post  n1 C x1 (0 : Int32) (0 : Int32) (0 : Int32)
def w_X0_placeApartFrom_14b (post : Int32 → CS → Prop) (K14 : CS → Int32 → Int32 → Prop) (C : CS) (x2 : Int32) (x3 : Int32) : Prop := ((x2 ≤ x3 → (((¬ (cz C 3) = (cz C 4) → (post x2 C)) ∧ ((cz C 3) = (cz C 4) → (post (-6 : Int32) C))))) ∧ (¬ x2 ≤ x3 → (vp_in x3 400 ∧ ((¬ ((cr C 5) (Int32.toNatClampNeg x3)) = ((cr C 9) (Int32.toNatClampNeg x3)) → (post x3 C)) ∧ (((cr C 5) (Int32.toNatClampNeg x3)) = ((cr C 9) (Int32.toNatClampNeg x3)) → (((((cr C 6) (Int32.toNatClampNeg x3)) = ((cr C 10) (Int32.toNatClampNeg x3)) → (K14 C x2 (x3 + 1))) ∧ (¬ ((cr C 6) (Int32.toNatClampNeg x3)) = ((cr C 10) (Int32.toNatClampNeg x3)) → (post x3 C)))))))))
def w_X0_placeApartFrom_14 (post : Int32 → CS → Prop) : Nat → CS → Int32 → Int32 → Prop
  | 0 => fun _ _ _ => False
  | n + 1 => fun C x2 x3 => w_X0_placeApartFrom_14b post (w_X0_placeApartFrom_14 post n) C x2 x3
def w_X0_placeApartFrom (post : Int32 → CS → Prop) (C : CS)  : Prop := ∃ n1, w_X0_placeApartFrom_14 post  n1 C (if (cz C 4) < (cz C 3) then (cz C 4) else (cz C 3)) (0 : Int32)
def w_X1_clear (post : CS → Prop) (C : CS)  : Prop := w_J7_fill13 (fun C1 => post C1) C (0 : Int32)
def w_X1_count4_3b (post : CS → Prop) (K3 : CS → Int32 → Int32 → Int32 → Prop) (C : CS) (x3 : Int32) (x4 : Int32) (x5 : Int32) : Prop := ((x3 ≤ x5 → (post C)) ∧ (¬ x3 ≤ x5 → (vp_in x5 400 ∧ vp_in ((cr C 5) (Int32.toNatClampNeg x5)) 1024 ∧ K3 (cru C 13 (upd (cr C 13) (Int32.toNatClampNeg ((cr C 5) (Int32.toNatClampNeg x5))) (((cr C 13) (Int32.toNatClampNeg ((cr C 5) (Int32.toNatClampNeg x5)))) + x4))) x3 x4 (x5 + 1))))
def w_X1_count4_3 (post : CS → Prop) : Nat → CS → Int32 → Int32 → Int32 → Prop
  | 0 => fun _ _ _ _ => False
  | n + 1 => fun C x3 x4 x5 => w_X1_count4_3b post (w_X1_count4_3 post n) C x3 x4 x5
def w_X1_count4 (post : CS → Prop) (C : CS) (x2 : Int32) (x3 : Int32) (x4 : Int32) : Prop := ∃ n1, w_X1_count4_3 post  n1 C x3 x4 x2
def w_X1_count8_3b (post : CS → Prop) (K3 : CS → Int32 → Int32 → Int32 → Prop) (C : CS) (x3 : Int32) (x4 : Int32) (x5 : Int32) : Prop := ((x3 ≤ x5 → (post C)) ∧ (¬ x3 ≤ x5 → (vp_in x5 400 ∧ vp_in ((cr C 9) (Int32.toNatClampNeg x5)) 1024 ∧ K3 (cru C 13 (upd (cr C 13) (Int32.toNatClampNeg ((cr C 9) (Int32.toNatClampNeg x5))) (((cr C 13) (Int32.toNatClampNeg ((cr C 9) (Int32.toNatClampNeg x5)))) + x4))) x3 x4 (x5 + 1))))
def w_X1_count8_3 (post : CS → Prop) : Nat → CS → Int32 → Int32 → Int32 → Prop
  | 0 => fun _ _ _ _ => False
  | n + 1 => fun C x3 x4 x5 => w_X1_count8_3b post (w_X1_count8_3 post n) C x3 x4 x5
def w_X1_count8 (post : CS → Prop) (C : CS) (x2 : Int32) (x3 : Int32) (x4 : Int32) : Prop := ∃ n1, w_X1_count8_3 post  n1 C x3 x4 x2
def w_X1_countDifferent_23 (post : Int32 → CS → Prop) (K4 : CS → Int32 → Int32 → Prop) (C : CS) (x1 : Int32) (x2 : Int32) : Prop := K4 C x1 (x2 + 1)
def w_X1_countDifferent_4b (post : Int32 → CS → Prop) (K4 : CS → Int32 → Int32 → Prop) (C : CS) (x1 : Int32) (x2 : Int32) : Prop := (((1023 : Int32) < x2 → (post x1 C)) ∧ (¬ (1023 : Int32) < x2 → (vp_in x2 1024 ∧ ((((cr C 13) (Int32.toNatClampNeg x2)) = 0 → (w_X1_countDifferent_23 post K4 C x1 x2)) ∧ (¬ ((cr C 13) (Int32.toNatClampNeg x2)) = 0 → (w_X1_countDifferent_23 post K4 C (x1 + 1) x2))))))
def w_X1_countDifferent_4 (post : Int32 → CS → Prop) : Nat → CS → Int32 → Int32 → Prop
  | 0 => fun _ _ _ => False
  | n + 1 => fun C x1 x2 => w_X1_countDifferent_4b post (w_X1_countDifferent_4 post n) C x1 x2
def w_X1_countDifferent (post : Int32 → CS → Prop) (C : CS)  : Prop := ∃ n1, w_X1_countDifferent_4 post  n1 C (0 : Int32) (0 : Int32)
def w_X1_leastUneven_2b (post : Int32 → CS → Prop) (K2 : CS → Int32 → Prop) (C : CS) (x1 : Int32) : Prop := (((1023 : Int32) < x1 → (post (-6 : Int32) C)) ∧ (¬ (1023 : Int32) < x1 → (vp_in x1 1024 ∧ ((((cr C 13) (Int32.toNatClampNeg x1)) = 0 → (K2 C (x1 + 1))) ∧ (¬ ((cr C 13) (Int32.toNatClampNeg x1)) = 0 → (post x1 C))))))
def w_X1_leastUneven_2 (post : Int32 → CS → Prop) : Nat → CS → Int32 → Prop
  | 0 => fun _ _ => False
  | n + 1 => fun C x1 => w_X1_leastUneven_2b post (w_X1_leastUneven_2 post n) C x1
def w_X1_leastUneven (post : Int32 → CS → Prop) (C : CS)  : Prop := ∃ n1, w_X1_leastUneven_2 post  n1 C (0 : Int32)
def w_X1_valueOfMoreThan_2b (post : Int32 → CS → Prop) (K2 : CS → Int32 → Int32 → Prop) (C : CS) (x1 : Int32) (x2 : Int32) : Prop := (((1023 : Int32) < x2 → (post (-6 : Int32) C)) ∧ (¬ (1023 : Int32) < x2 → (vp_in x2 1024 ∧ ((((cr C 13) (Int32.toNatClampNeg x2)) ≤ x1 → (K2 C x1 (x2 + 1))) ∧ (¬ ((cr C 13) (Int32.toNatClampNeg x2)) ≤ x1 → (post x2 C))))))
def w_X1_valueOfMoreThan_2 (post : Int32 → CS → Prop) : Nat → CS → Int32 → Int32 → Prop
  | 0 => fun _ _ _ => False
  | n + 1 => fun C x1 x2 => w_X1_valueOfMoreThan_2b post (w_X1_valueOfMoreThan_2 post n) C x1 x2
def w_X1_valueOfMoreThan (post : Int32 → CS → Prop) (C : CS) (x1 : Int32) : Prop := ∃ n1, w_X1_valueOfMoreThan_2 post  n1 C x1 (0 : Int32)
def w_X1_groupByCount_10b (post : CS → Prop) (K10 : CS → Int32 → Prop) (C : CS) (x1 : Int32) : Prop := (((1023 : Int32) < x1 → (post C)) ∧ (¬ (1023 : Int32) < x1 → (vp_in x1 1024 ∧ vp_in ((cr C 13) (Int32.toNatClampNeg x1)) 401 ∧ K10 (cru C 14 (upd (cr C 14) (Int32.toNatClampNeg ((cr C 13) (Int32.toNatClampNeg x1))) (((cr C 14) (Int32.toNatClampNeg ((cr C 13) (Int32.toNatClampNeg x1)))) + (1 : Int32)))) (x1 + 1))))
def w_X1_groupByCount_10 (post : CS → Prop) : Nat → CS → Int32 → Prop
  | 0 => fun _ _ => False
  | n + 1 => fun C x1 => w_X1_groupByCount_10b post (w_X1_groupByCount_10 post n) C x1
def w_X1_groupByCount (post : CS → Prop) (C : CS)  : Prop := w_J7_fill14 (fun C1 => ∃ n3, w_X1_groupByCount_10 post  n3 C1 (0 : Int32)) C (0 : Int32)
def w_X1_valueOfCount_34 (post : Int32 → CS → Prop) (K5 : CS → Int32 → Int32 → Int32 → Prop) (C : CS) (x1 : Int32) (x3 : Int32) (x4 : Int32) : Prop := K5 C x1 x3 (x4 + 1)
def w_X1_valueOfCount_5b (post : Int32 → CS → Prop) (K5 : CS → Int32 → Int32 → Int32 → Prop) (C : CS) (x1 : Int32) (x3 : Int32) (x4 : Int32) : Prop := (((1023 : Int32) < x4 → (post (-6 : Int32) C)) ∧ (¬ (1023 : Int32) < x4 → (vp_in x4 1024 ∧ ((¬ ((cr C 13) (Int32.toNatClampNeg x4)) = x1 → (w_X1_valueOfCount_34 post K5 C x1 x3 x4)) ∧ (((cr C 13) (Int32.toNatClampNeg x4)) = x1 → (((¬ x3 = 0 → (w_X1_valueOfCount_34 post K5 C x1 (x3 + (-1)) x4)) ∧ (x3 = 0 → (post x4 C)))))))))
def w_X1_valueOfCount_5 (post : Int32 → CS → Prop) : Nat → CS → Int32 → Int32 → Int32 → Prop
  | 0 => fun _ _ _ _ => False
  | n + 1 => fun C x1 x3 x4 => w_X1_valueOfCount_5b post (w_X1_valueOfCount_5 post n) C x1 x3 x4
def w_X1_valueOfCount (post : Int32 → CS → Prop) (C : CS) (x1 : Int32) (x2 : Int32) : Prop := ∃ n1, w_X1_valueOfCount_5 post  n1 C x1 x2 (0 : Int32)
def w_X1_oftenest_17b (post : Int32 → CS → Prop) (K17 : CS → Int32 → Int32 → Prop) (C : CS) (x2 : Int32) (x3 : Int32) : Prop := ((x3 ≤ 0 → (post (-6 : Int32) C)) ∧ (¬ x3 ≤ 0 → (vp_in x3 401 ∧ ((((cr C 14) (Int32.toNatClampNeg x3)) ≤ x2 → (K17 C (x2 - ((cr C 14) (Int32.toNatClampNeg x3))) (x3 + (-1)))) ∧ (¬ ((cr C 14) (Int32.toNatClampNeg x3)) ≤ x2 → (w_X1_valueOfCount (fun r6 C5 => post r6 C5) C x3 x2))))))
def w_X1_oftenest_17 (post : Int32 → CS → Prop) : Nat → CS → Int32 → Int32 → Prop
  | 0 => fun _ _ _ => False
  | n + 1 => fun C x2 x3 => w_X1_oftenest_17b post (w_X1_oftenest_17 post n) C x2 x3
def w_X1_oftenest (post : Int32 → CS → Prop) (C : CS) (x1 : Int32) : Prop := ((0 ≤ x1 → (w_X1_groupByCount (fun C1 => ∃ n3, w_X1_oftenest_17 post  n3 C1 x1 (400 : Int32)) C )) ∧ (¬ 0 ≤ x1 → (post (-6 : Int32) C)))
def w_X2_writeOwn (post : CS → Prop) (C : CS) (v0 : Nat) (x1 : Int32) (x2 : Int32) (x3 : Int32) : Prop := ((x1 < 0 → (post C)) ∧ (¬ x1 < 0 → (v0 < cn C ∧ (((nI (ck C v0)) ≤ x1 → (post C)) ∧ (¬ (nI (ck C v0)) ≤ x1 → ((((nI (ck C v0)) ≤ x1 → (post C)) ∧ (¬ (nI (ck C v0)) ≤ x1 → (vp_in x1 (ck C v0) ∧ post (cwu (cvu C v0 (upd (cv C v0) (Int32.toNatClampNeg x1) x2)) v0 (upd (cw C v0) (Int32.toNatClampNeg x1) x3)))))))))))
def w_X3_told (post : Int32 → CS → Prop) (C : CS) (x1 : Int32) : Prop := (((-1 : Int32) < x1 → (post x1 C)) ∧ (¬ (-1 : Int32) < x1 → (((x1 < (-6 : Int32) → (post x1 C)) ∧ (¬ x1 < (-6 : Int32) → (vp_in (-x1) 7 ∧ post x1 (cru C 16 (upd (cr C 16) (Int32.toNatClampNeg (-x1)) (((cr C 16) (Int32.toNatClampNeg (-x1))) + (1 : Int32))))))))))
def w_X3_foundOrNone (post : Int32 → CS → Prop) (C : CS) (x1 : Int32) : Prop := ((¬ x1 = (-6 : Int32) → (post x1 C)) ∧ (x1 = (-6 : Int32) → (w_X3_told (fun r2 C1 => post r2 C1) C (-6 : Int32))))
def w_X3_isShelfPlace (post : Int32 → CS → Prop) (C : CS) (x0 : Int32) : Prop := ((x0 < 0 → (post (0 : Int32) C)) ∧ (¬ x0 < 0 → ((((12 : Int32) ≤ x0 → (post (0 : Int32) C)) ∧ (¬ (12 : Int32) ≤ x0 → (post (1 : Int32) C))))))
def w_X3_isValue (post : Int32 → CS → Prop) (C : CS) (x0 : Int32) : Prop := ((x0 < 0 → (post (0 : Int32) C)) ∧ (¬ x0 < 0 → ((((1023 : Int32) < x0 → (post (0 : Int32) C)) ∧ (¬ (1023 : Int32) < x0 → (post (1 : Int32) C))))))
def w_X3_isVersion (post : Int32 → CS → Prop) (C : CS) (x1 : Int32) : Prop := ((x1 < 0 → (post (0 : Int32) C)) ∧ (¬ x1 < 0 → ((((cz C 0) ≤ x1 → (post (0 : Int32) C)) ∧ (¬ (cz C 0) ≤ x1 → (post (1 : Int32) C))))))
def w_X3_findingOfPlace (post : Int32 → CS → Prop) (C : CS) (x1 : Int32) : Prop := w_X3_isShelfPlace (fun r2 C1 => ((¬ r2 = 0 → (vp_in x1 12 ∧ ∀ w3, w3 = co C1 2 (Int32.toNatClampNeg x1) → ((¬ w3 = none → (post (0 : Int32) C1)) ∧ (w3 = none → (post (-2 : Int32) C1))))) ∧ (r2 = 0 → (post (-1 : Int32) C1)))) C x1
def w_X3_findingOfGrown (post : Int32 → CS → Prop) (C : CS) (x1 : Int32) : Prop := w_X3_findingOfPlace (fun r2 C1 => ((r2 = 0 → (vp_in x1 12 ∧ ((¬ ((cr C1 3) (Int32.toNatClampNeg x1)) = 0 → (post (-3 : Int32) C1)) ∧ (((cr C1 3) (Int32.toNatClampNeg x1)) = 0 → (post (0 : Int32) C1))))) ∧ (¬ r2 = 0 → (post r2 C1)))) C x1
def w_X3_findingOfIndex (post : Int32 → CS → Prop) (C : CS) (x1 : Int32) (x2 : Int32) : Prop := w_X3_findingOfPlace (fun r2 C1 => ((r2 = 0 → (((x2 < 0 → (post (-1 : Int32) C1)) ∧ (¬ x2 < 0 → (vp_in x1 12 ∧ ∀ w3, w3 = co C1 2 (Int32.toNatClampNeg x1) → ∃ v5, w3 = some v5 ∧ v5 < cn C1 ∧ ((x2 < (cf C1 v5 3) → (post (0 : Int32) C1)) ∧ (¬ x2 < (cf C1 v5 3) → (post (-1 : Int32) C1)))))))) ∧ (¬ r2 = 0 → (post r2 C1)))) C x1
def w_X3_topBitOf (post : Int32 → CS → Prop) (C : CS) (x1 : Int32) : Prop := vp_in x1 12 ∧ ((¬ ((cr C 3) (Int32.toNatClampNeg x1)) = (2 : Int32) → (post (9 : Int32) C)) ∧ (((cr C 3) (Int32.toNatClampNeg x1)) = (2 : Int32) → (post (7 : Int32) C)))
def w_X3_findingOfPlane (post : Int32 → CS → Prop) (C : CS) (x1 : Int32) (x2 : Int32) : Prop := w_X3_findingOfPlace (fun r2 C1 => ((r2 = 0 → (vp_in x1 12 ∧ ((¬ ((cr C1 3) (Int32.toNatClampNeg x1)) = 0 → (((x2 < 0 → (post (-1 : Int32) C1)) ∧ (¬ x2 < 0 → (w_X3_topBitOf (fun r5 C4 => ((x2 ≤ r5 → (post (0 : Int32) C4)) ∧ (¬ x2 ≤ r5 → (post (-1 : Int32) C4)))) C1 x1))))) ∧ (((cr C1 3) (Int32.toNatClampNeg x1)) = 0 → (post (-3 : Int32) C1))))) ∧ (¬ r2 = 0 → (post r2 C1)))) C x1
def w_X3_findingOfSpan (post : Int32 → CS → Prop) (C : CS) (x1 : Int32) (x2 : Int32) (x3 : Int32) : Prop := w_X3_findingOfPlace (fun r2 C1 => ((r2 = 0 → (((x2 ≤ x3 → (((x2 < 0 → (post (-1 : Int32) C1)) ∧ (¬ x2 < 0 → (vp_in x1 12 ∧ ∀ w3, w3 = co C1 2 (Int32.toNatClampNeg x1) → ∃ v5, w3 = some v5 ∧ v5 < cn C1 ∧ ((x3 ≤ (cf C1 v5 3) → (post (0 : Int32) C1)) ∧ (¬ x3 ≤ (cf C1 v5 3) → (post (-1 : Int32) C1)))))))) ∧ (¬ x2 ≤ x3 → (post (-4 : Int32) C1))))) ∧ (¬ r2 = 0 → (post r2 C1)))) C x1
def w_X3_hasRoomFor (post : Int32 → CS → Prop) (C : CS) (x1 : Int32) : Prop := (((500 : Int32) ≤ (cz C 0) → (post (0 : Int32) C)) ∧ (¬ (500 : Int32) ≤ (cz C 0) → (((((20000 : Int32) - (cz C 1)) < x1 → (post (0 : Int32) C)) ∧ (¬ ((20000 : Int32) - (cz C 1)) < x1 → (post (1 : Int32) C))))))
def w_X3_showGrown (post : Int32 → CS → Prop) (C : CS) (v1 : Nat) (x2 : Int32) : Prop := v1 < cn C ∧ vp_in x2 12 ∧ post (cf C v1 0) (cru (cou C 2 (va_up (co C 2) (Int32.toNatClampNeg x2) (some v1))) 3 (upd (cr C 3) (Int32.toNatClampNeg x2) (0 : Int32)))
def w_X3_layOutSpan (post : Int32 → CS → Prop) (C : CS) (x1 : Int32) (x2 : Int32) (x3 : Int32) : Prop := w_X3_findingOfSpan (fun r2 C1 => ((¬ r2 = 0 → (post r2 C1)) ∧ (r2 = 0 → (vp_in x1 12 ∧ ∀ w3, w3 = co C1 2 (Int32.toNatClampNeg x1) → ∃ v5, w3 = some v5 ∧ v5 < cn C1 ∧ w_X0_layOut4 (fun C7 => post r2 C7) C1 v5)))) C x1 x2 x3
def w_X3_countSpan (post : Int32 → CS → Prop) (C : CS) (x1 : Int32) (x2 : Int32) (x3 : Int32) : Prop := w_X3_layOutSpan (fun r2 C1 => ((¬ r2 = 0 → (post r2 C1)) ∧ (r2 = 0 → (w_X1_clear (fun C3 => w_X1_count4 (fun C5 => post r2 C5) C3 x2 x3 (1 : Int32)) C1 )))) C x1 x2 x3
def w_X3_layOutPlane_22b (post : Int32 → CS → Prop) (K22 : CS → Int32 → Int32 → Int32 → Prop) (C : CS) (x2 : Int32) (x3 : Int32) (x4 : Int32) : Prop := ((x2 ≤ x4 → (post (x3 - x2) C)) ∧ (¬ x2 ≤ x4 → (w_X0_splitBy (fun C10 => K22 C10 x2 x3 (x4 + 1)) C (x3 - x4))))
def w_X3_layOutPlane_22 (post : Int32 → CS → Prop) : Nat → CS → Int32 → Int32 → Int32 → Prop
  | 0 => fun _ _ _ _ => False
  | n + 1 => fun C x2 x3 x4 => w_X3_layOutPlane_22b post (w_X3_layOutPlane_22 post n) C x2 x3 x4
def w_X3_layOutPlane (post : Int32 → CS → Prop) (C : CS) (x1 : Int32) (x2 : Int32) : Prop := w_X3_topBitOf (fun r2 C1 => vp_in x1 12 ∧ ∀ w3, w3 = co C1 2 (Int32.toNatClampNeg x1) → ∃ v5, w3 = some v5 ∧ v5 < cn C1 ∧ w_X0_layOut4 (fun C7 => ∃ n9, w_X3_layOutPlane_22 post  n9 C7 x2 r2 (0 : Int32)) C1 v5) C x1
def w_X3_goDown_75 (post : Int32 → CS → Prop) (K9 : CS → Int32 → Int32 → Int32 → Int32 → Int32 → Int32 → Prop) (C : CS) (x1 : Int32) (x2 : Int32) (x4 : Int32) (x5 : Int32) (x6 : Int32) (x7 : Int32) : Prop := K9 C x1 x2 x4 x5 x6 (x7 + 1)
def w_X3_goDown_9b (post : Int32 → CS → Prop) (K9 : CS → Int32 → Int32 → Int32 → Int32 → Int32 → Int32 → Prop) (C : CS) (x1 : Int32) (x2 : Int32) (x4 : Int32) (x5 : Int32) (x6 : Int32) (x7 : Int32) : Prop := ((x4 < x7 → (post x5 (czu C 2 (x4 + (1 : Int32))))) ∧ (¬ x4 < x7 → (w_X0_countWithin (fun r3 C2 => vp_in x7 10 ∧ ((x6 < r3 → (w_X3_goDown_75 post K9 (cru C2 15 (upd (cr C2 15) (Int32.toNatClampNeg x7) r3)) x1 x2 x4 x5 x6 x7)) ∧ (¬ x6 < r3 → (w_X3_goDown_75 post K9 (cru C2 15 (upd (cr C2 15) (Int32.toNatClampNeg x7) r3)) x1 x2 x4 (x5 + ((1 : Int32) <<< ((x4 - x7) &&& 31))) (x6 - r3) x7)))) C x1 x2 x5 ((x5 + ((1 : Int32) <<< ((x4 - x7) &&& 31))) - (1 : Int32)))))
def w_X3_goDown_9 (post : Int32 → CS → Prop) : Nat → CS → Int32 → Int32 → Int32 → Int32 → Int32 → Int32 → Prop
  | 0 => fun _ _ _ _ _ _ _ => False
  | n + 1 => fun C x1 x2 x4 x5 x6 x7 => w_X3_goDown_9b post (w_X3_goDown_9 post n) C x1 x2 x4 x5 x6 x7
def w_X3_goDown (post : Int32 → CS → Prop) (C : CS) (x1 : Int32) (x2 : Int32) (x3 : Int32) (x4 : Int32) : Prop := ∃ n1, w_X3_goDown_9 post  n1 C x1 x2 x4 (0 : Int32) x3 (0 : Int32)
