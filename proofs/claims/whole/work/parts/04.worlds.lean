abbrev tyW (cI cS cO : ClassId) : List (ClassId × FieldType) := [(cI, .int), (cS, .short), (cO, .object "RankShelf$Version")]
/-! ===== the reference: ints by their slot, arrays by their slot ===== -/
abbrev MS : Type := (Nat → Int32) × (Nat → Nat → Int32)
def mz (M : MS) : Nat → Int32 := M.1
def mr (M : MS) : Nat → Nat → Int32 := M.2
def mzu (M : MS) (k : Nat) (v : Int32) : MS := (va_up M.1 k v, M.2)
def mru (M : MS) (k : Nat) (g : Nat → Int32) : MS := (M.1, va_up M.2 k g)
def oM (a : Nat → Nat) (M : MS) : List Value := [.int (mz M 0), .ref (a 1), .ref (a 2), .ref (a 3), .ref (a 4), .ref (a 5), .int (mz M 6), .int (mz M 7), .ref (a 8), .ref (a 9), .ref (a 10), .ref (a 11), .ref (a 12), .ref (a 13), .int (mz M 14), .ref (a 15), .ref (a 16), .ref (a 17), .ref (a 18), .ref (a 19)]
def wM (cI cS : ClassId) (a : Nat → Nat) (M : MS) : va_W := [(a 0, .inr (4, oM a M)), (a 1, .inl (cI, 500, .inl (mr M 1))), (a 2, .inl (cI, 500, .inl (mr M 2))), (a 3, .inl (cI, 500, .inl (mr M 3))), (a 4, .inl (cS, 200000, .inl (mr M 4))), (a 5, .inl (cI, 200000, .inl (mr M 5))), (a 8, .inl (cI, 12, .inl (mr M 8))), (a 9, .inl (cI, 12, .inl (mr M 9))), (a 10, .inl (cI, 12, .inl (mr M 10))), (a 11, .inl (cI, 4800, .inl (mr M 11))), (a 12, .inl (cI, 4800, .inl (mr M 12))), (a 13, .inl (cI, 10, .inl (mr M 13))), (a 15, .inl (cI, 7, .inl (mr M 15))), (a 16, .inl (cI, 400, .inl (mr M 16))), (a 17, .inl (cI, 400, .inl (mr M 17))), (a 18, .inl (cI, 1024, .inl (mr M 18))), (a 19, .inl (cI, 1024, .inl (mr M 19)))]
theorem wM_g0 {cI cS : ClassId} {a : Nat → Nat} {M : MS} : (wM cI cS a M)[0]? = some (a 0, .inr (4, oM a M)) := rfl
theorem wM_g1 {cI cS : ClassId} {a : Nat → Nat} {M : MS} : (wM cI cS a M)[1]? = some (a 1, .inl (cI, 500, .inl (mr M 1))) := rfl
theorem wM_s1 {cI cS : ClassId} {a : Nat → Nat} {M : MS} {g : Nat → Int32} : (wM cI cS a M).set 1 (a 1, .inl (cI, 500, .inl g)) = wM cI cS a (mru M 1 g) := rfl
theorem wM_g2 {cI cS : ClassId} {a : Nat → Nat} {M : MS} : (wM cI cS a M)[2]? = some (a 2, .inl (cI, 500, .inl (mr M 2))) := rfl
theorem wM_s2 {cI cS : ClassId} {a : Nat → Nat} {M : MS} {g : Nat → Int32} : (wM cI cS a M).set 2 (a 2, .inl (cI, 500, .inl g)) = wM cI cS a (mru M 2 g) := rfl
theorem wM_g3 {cI cS : ClassId} {a : Nat → Nat} {M : MS} : (wM cI cS a M)[3]? = some (a 3, .inl (cI, 500, .inl (mr M 3))) := rfl
theorem wM_s3 {cI cS : ClassId} {a : Nat → Nat} {M : MS} {g : Nat → Int32} : (wM cI cS a M).set 3 (a 3, .inl (cI, 500, .inl g)) = wM cI cS a (mru M 3 g) := rfl
theorem wM_g4 {cI cS : ClassId} {a : Nat → Nat} {M : MS} : (wM cI cS a M)[4]? = some (a 4, .inl (cS, 200000, .inl (mr M 4))) := rfl
theorem wM_s4 {cI cS : ClassId} {a : Nat → Nat} {M : MS} {g : Nat → Int32} : (wM cI cS a M).set 4 (a 4, .inl (cS, 200000, .inl g)) = wM cI cS a (mru M 4 g) := rfl
theorem wM_g5 {cI cS : ClassId} {a : Nat → Nat} {M : MS} : (wM cI cS a M)[5]? = some (a 5, .inl (cI, 200000, .inl (mr M 5))) := rfl
theorem wM_s5 {cI cS : ClassId} {a : Nat → Nat} {M : MS} {g : Nat → Int32} : (wM cI cS a M).set 5 (a 5, .inl (cI, 200000, .inl g)) = wM cI cS a (mru M 5 g) := rfl
theorem wM_g8 {cI cS : ClassId} {a : Nat → Nat} {M : MS} : (wM cI cS a M)[6]? = some (a 8, .inl (cI, 12, .inl (mr M 8))) := rfl
theorem wM_s8 {cI cS : ClassId} {a : Nat → Nat} {M : MS} {g : Nat → Int32} : (wM cI cS a M).set 6 (a 8, .inl (cI, 12, .inl g)) = wM cI cS a (mru M 8 g) := rfl
theorem wM_g9 {cI cS : ClassId} {a : Nat → Nat} {M : MS} : (wM cI cS a M)[7]? = some (a 9, .inl (cI, 12, .inl (mr M 9))) := rfl
theorem wM_s9 {cI cS : ClassId} {a : Nat → Nat} {M : MS} {g : Nat → Int32} : (wM cI cS a M).set 7 (a 9, .inl (cI, 12, .inl g)) = wM cI cS a (mru M 9 g) := rfl
theorem wM_g10 {cI cS : ClassId} {a : Nat → Nat} {M : MS} : (wM cI cS a M)[8]? = some (a 10, .inl (cI, 12, .inl (mr M 10))) := rfl
theorem wM_s10 {cI cS : ClassId} {a : Nat → Nat} {M : MS} {g : Nat → Int32} : (wM cI cS a M).set 8 (a 10, .inl (cI, 12, .inl g)) = wM cI cS a (mru M 10 g) := rfl
theorem wM_g11 {cI cS : ClassId} {a : Nat → Nat} {M : MS} : (wM cI cS a M)[9]? = some (a 11, .inl (cI, 4800, .inl (mr M 11))) := rfl
theorem wM_s11 {cI cS : ClassId} {a : Nat → Nat} {M : MS} {g : Nat → Int32} : (wM cI cS a M).set 9 (a 11, .inl (cI, 4800, .inl g)) = wM cI cS a (mru M 11 g) := rfl
theorem wM_g12 {cI cS : ClassId} {a : Nat → Nat} {M : MS} : (wM cI cS a M)[10]? = some (a 12, .inl (cI, 4800, .inl (mr M 12))) := rfl
theorem wM_s12 {cI cS : ClassId} {a : Nat → Nat} {M : MS} {g : Nat → Int32} : (wM cI cS a M).set 10 (a 12, .inl (cI, 4800, .inl g)) = wM cI cS a (mru M 12 g) := rfl
theorem wM_g13 {cI cS : ClassId} {a : Nat → Nat} {M : MS} : (wM cI cS a M)[11]? = some (a 13, .inl (cI, 10, .inl (mr M 13))) := rfl
theorem wM_s13 {cI cS : ClassId} {a : Nat → Nat} {M : MS} {g : Nat → Int32} : (wM cI cS a M).set 11 (a 13, .inl (cI, 10, .inl g)) = wM cI cS a (mru M 13 g) := rfl
theorem wM_g15 {cI cS : ClassId} {a : Nat → Nat} {M : MS} : (wM cI cS a M)[12]? = some (a 15, .inl (cI, 7, .inl (mr M 15))) := rfl
theorem wM_s15 {cI cS : ClassId} {a : Nat → Nat} {M : MS} {g : Nat → Int32} : (wM cI cS a M).set 12 (a 15, .inl (cI, 7, .inl g)) = wM cI cS a (mru M 15 g) := rfl
theorem wM_g16 {cI cS : ClassId} {a : Nat → Nat} {M : MS} : (wM cI cS a M)[13]? = some (a 16, .inl (cI, 400, .inl (mr M 16))) := rfl
theorem wM_s16 {cI cS : ClassId} {a : Nat → Nat} {M : MS} {g : Nat → Int32} : (wM cI cS a M).set 13 (a 16, .inl (cI, 400, .inl g)) = wM cI cS a (mru M 16 g) := rfl
theorem wM_g17 {cI cS : ClassId} {a : Nat → Nat} {M : MS} : (wM cI cS a M)[14]? = some (a 17, .inl (cI, 400, .inl (mr M 17))) := rfl
theorem wM_s17 {cI cS : ClassId} {a : Nat → Nat} {M : MS} {g : Nat → Int32} : (wM cI cS a M).set 14 (a 17, .inl (cI, 400, .inl g)) = wM cI cS a (mru M 17 g) := rfl
theorem wM_g18 {cI cS : ClassId} {a : Nat → Nat} {M : MS} : (wM cI cS a M)[15]? = some (a 18, .inl (cI, 1024, .inl (mr M 18))) := rfl
theorem wM_s18 {cI cS : ClassId} {a : Nat → Nat} {M : MS} {g : Nat → Int32} : (wM cI cS a M).set 15 (a 18, .inl (cI, 1024, .inl g)) = wM cI cS a (mru M 18 g) := rfl
theorem wM_g19 {cI cS : ClassId} {a : Nat → Nat} {M : MS} : (wM cI cS a M)[16]? = some (a 19, .inl (cI, 1024, .inl (mr M 19))) := rfl
theorem wM_s19 {cI cS : ClassId} {a : Nat → Nat} {M : MS} {g : Nat → Int32} : (wM cI cS a M).set 16 (a 19, .inl (cI, 1024, .inl g)) = wM cI cS a (mru M 19 g) := rfl
theorem wM_z0 {cI cS : ClassId} {a : Nat → Nat} {M : MS} {v : Int32} : (wM cI cS a M).set 0 (a 0, .inr (4, (oM a M).set 0 (.int v))) = wM cI cS a (mzu M 0 v) := rfl
theorem wM_z6 {cI cS : ClassId} {a : Nat → Nat} {M : MS} {v : Int32} : (wM cI cS a M).set 0 (a 0, .inr (4, (oM a M).set 6 (.int v))) = wM cI cS a (mzu M 6 v) := rfl
theorem wM_z7 {cI cS : ClassId} {a : Nat → Nat} {M : MS} {v : Int32} : (wM cI cS a M).set 0 (a 0, .inr (4, (oM a M).set 7 (.int v))) = wM cI cS a (mzu M 7 v) := rfl
theorem wM_z14 {cI cS : ClassId} {a : Nat → Nat} {M : MS} {v : Int32} : (wM cI cS a M).set 0 (a 0, .inr (4, (oM a M).set 14 (.int v))) = wM cI cS a (mzu M 14 v) := rfl
/-! ===== the class: ints, arrays, rows of references (by the version's number), the versions ===== -/
abbrev CS : Type := (Nat → Int32) × (Nat → Nat → Int32) × (Nat → Nat → Option Nat) × Nat × (Nat → Nat → Int32) × (Nat → Option Nat) × (Nat → Nat) × (Nat → Nat → Int32) × (Nat → Nat → Int32)
def cz (C : CS) : Nat → Int32 := C.1
def cr (C : CS) : Nat → Nat → Int32 := C.2.1
def co (C : CS) : Nat → Nat → Option Nat := C.2.2.1
def cn (C : CS) : Nat := C.2.2.2.1
def cf (C : CS) : Nat → Nat → Int32 := C.2.2.2.2.1
def cp (C : CS) : Nat → Option Nat := C.2.2.2.2.2.1
def ck (C : CS) : Nat → Nat := C.2.2.2.2.2.2.1
def cv (C : CS) : Nat → Nat → Int32 := C.2.2.2.2.2.2.2.1
def cw (C : CS) : Nat → Nat → Int32 := C.2.2.2.2.2.2.2.2
def czu (C : CS) (k : Nat) (v : Int32) : CS := (va_up (cz C) k v, C.2)
def cru (C : CS) (k : Nat) (g : Nat → Int32) : CS := (cz C, va_up (cr C) k g, C.2.2)
def cou (C : CS) (k : Nat) (g : Nat → Option Nat) : CS := (cz C, cr C, va_up (co C) k g, C.2.2.2)
def cfu (C : CS) (v k : Nat) (x : Int32) : CS := (cz C, cr C, co C, cn C, va_up (cf C) v (va_up (cf C v) k x), C.2.2.2.2.2)
def cvu (C : CS) (v : Nat) (g : Nat → Int32) : CS := (cz C, cr C, co C, cn C, cf C, cp C, ck C, va_up (cv C) v g, cw C)
def cwu (C : CS) (v : Nat) (g : Nat → Int32) : CS := (cz C, cr C, co C, cn C, cf C, cp C, ck C, cv C, va_up (cw C) v g)
def vO (ad : Nat → Nat) (f : Nat → Nat → Int32) (q : Nat → Option Nat) (v : Nat) : List Value := [.int (f v 0), rv ad (q v), .int (f v 2), .int (f v 3), .ref (ad (3 * v + 1)), .ref (ad (3 * v + 2)), .int (f v 6), .int (f v 7), .int (f v 8)]
def poolC (cI : ClassId) (ad : Nat → Nat) (f : Nat → Nat → Int32) (q : Nat → Option Nat) (k : Nat → Nat) (g h : Nat → Nat → Int32) : Nat → va_W
  | 0 => []
  | n + 1 => poolC cI ad f q k g h n ++ [(ad (3 * n), .inr (2, vO ad f q n)), (ad (3 * n + 1), .inl (cI, k n, .inl (g n))), (ad (3 * n + 2), .inl (cI, k n, .inl (h n)))]
def oC (a : Nat → Nat) (C : CS) : List Value := [.ref (a 1), .int (cz C 0), .int (cz C 1), .ref (a 2), .ref (a 3), .ref (a 4), .ref (a 8), .ref (a 12), .ref (a 15), .int (cz C 2), .ref (a 16)]
def hM (ad : Nat → Nat) (h : Nat → Option Nat) : Nat → Option Nat := fun i => (h i).map (fun v => ad (3 * v))

def fixC (cI cO : ClassId) (a ad : Nat → Nat) (C : CS) : va_W := [(a 0, .inr (3, oC a C)), (a 1, .inl (cO, 500, .inr (.inr (.inr (.inr (hM ad (co C 1))))))), (a 2, .inl (cO, 12, .inr (.inr (.inr (.inr (hM ad (co C 2))))))), (a 3, .inl (cI, 12, .inl (cr C 3))), (a 4, .inr (0, [.ref (a 5), .ref (a 6), .ref (a 7), .int (cz C 3)])), (a 5, .inl (cI, 400, .inl (cr C 5))), (a 6, .inl (cI, 400, .inl (cr C 6))), (a 7, .inl (cI, 400, .inl (cr C 7))), (a 8, .inr (0, [.ref (a 9), .ref (a 10), .ref (a 11), .int (cz C 4)])), (a 9, .inl (cI, 400, .inl (cr C 9))), (a 10, .inl (cI, 400, .inl (cr C 10))), (a 11, .inl (cI, 400, .inl (cr C 11))), (a 12, .inr (1, [.ref (a 13), .ref (a 14)])), (a 13, .inl (cI, 1024, .inl (cr C 13))), (a 14, .inl (cI, 401, .inl (cr C 14))), (a 15, .inl (cI, 10, .inl (cr C 15))), (a 16, .inl (cI, 7, .inl (cr C 16)))]
def wC (cI cO : ClassId) (a ad : Nat → Nat) (C : CS) : va_W := fixC cI cO a ad C ++ poolC cI ad (cf C) (cp C) (ck C) (cv C) (cw C) (cn C)
theorem wC_g0 {cI cO : ClassId} {a ad : Nat → Nat} {C : CS} : (wC cI cO a ad C)[0]? = some (a 0, .inr (3, oC a C)) := rfl
theorem wC_g1 {cI cO : ClassId} {a ad : Nat → Nat} {C : CS} : (wC cI cO a ad C)[1]? = some (a 1, .inl (cO, 500, .inr (.inr (.inr (.inr (hM ad (co C 1))))))) := rfl
theorem wC_g2 {cI cO : ClassId} {a ad : Nat → Nat} {C : CS} : (wC cI cO a ad C)[2]? = some (a 2, .inl (cO, 12, .inr (.inr (.inr (.inr (hM ad (co C 2))))))) := rfl
theorem wC_g3 {cI cO : ClassId} {a ad : Nat → Nat} {C : CS} : (wC cI cO a ad C)[3]? = some (a 3, .inl (cI, 12, .inl (cr C 3))) := rfl
theorem wC_g4 {cI cO : ClassId} {a ad : Nat → Nat} {C : CS} : (wC cI cO a ad C)[4]? = some (a 4, .inr (0, [.ref (a 5), .ref (a 6), .ref (a 7), .int (cz C 3)])) := rfl
theorem wC_g5 {cI cO : ClassId} {a ad : Nat → Nat} {C : CS} : (wC cI cO a ad C)[5]? = some (a 5, .inl (cI, 400, .inl (cr C 5))) := rfl
theorem wC_g6 {cI cO : ClassId} {a ad : Nat → Nat} {C : CS} : (wC cI cO a ad C)[6]? = some (a 6, .inl (cI, 400, .inl (cr C 6))) := rfl
theorem wC_g7 {cI cO : ClassId} {a ad : Nat → Nat} {C : CS} : (wC cI cO a ad C)[7]? = some (a 7, .inl (cI, 400, .inl (cr C 7))) := rfl
theorem wC_g8 {cI cO : ClassId} {a ad : Nat → Nat} {C : CS} : (wC cI cO a ad C)[8]? = some (a 8, .inr (0, [.ref (a 9), .ref (a 10), .ref (a 11), .int (cz C 4)])) := rfl
theorem wC_g9 {cI cO : ClassId} {a ad : Nat → Nat} {C : CS} : (wC cI cO a ad C)[9]? = some (a 9, .inl (cI, 400, .inl (cr C 9))) := rfl
theorem wC_g10 {cI cO : ClassId} {a ad : Nat → Nat} {C : CS} : (wC cI cO a ad C)[10]? = some (a 10, .inl (cI, 400, .inl (cr C 10))) := rfl
theorem wC_g11 {cI cO : ClassId} {a ad : Nat → Nat} {C : CS} : (wC cI cO a ad C)[11]? = some (a 11, .inl (cI, 400, .inl (cr C 11))) := rfl
theorem wC_g12 {cI cO : ClassId} {a ad : Nat → Nat} {C : CS} : (wC cI cO a ad C)[12]? = some (a 12, .inr (1, [.ref (a 13), .ref (a 14)])) := rfl
theorem wC_g13 {cI cO : ClassId} {a ad : Nat → Nat} {C : CS} : (wC cI cO a ad C)[13]? = some (a 13, .inl (cI, 1024, .inl (cr C 13))) := rfl
theorem wC_g14 {cI cO : ClassId} {a ad : Nat → Nat} {C : CS} : (wC cI cO a ad C)[14]? = some (a 14, .inl (cI, 401, .inl (cr C 14))) := rfl
theorem wC_g15 {cI cO : ClassId} {a ad : Nat → Nat} {C : CS} : (wC cI cO a ad C)[15]? = some (a 15, .inl (cI, 10, .inl (cr C 15))) := rfl
theorem wC_g16 {cI cO : ClassId} {a ad : Nat → Nat} {C : CS} : (wC cI cO a ad C)[16]? = some (a 16, .inl (cI, 7, .inl (cr C 16))) := rfl
theorem wC_s3 {cI cO : ClassId} {a ad : Nat → Nat} {C : CS} {g : Nat → Int32} : (wC cI cO a ad C).set 3 (a 3, .inl (cI, 12, .inl g)) = wC cI cO a ad (cru C 3 g) := rfl
theorem wC_s5 {cI cO : ClassId} {a ad : Nat → Nat} {C : CS} {g : Nat → Int32} : (wC cI cO a ad C).set 5 (a 5, .inl (cI, 400, .inl g)) = wC cI cO a ad (cru C 5 g) := rfl
theorem wC_s6 {cI cO : ClassId} {a ad : Nat → Nat} {C : CS} {g : Nat → Int32} : (wC cI cO a ad C).set 6 (a 6, .inl (cI, 400, .inl g)) = wC cI cO a ad (cru C 6 g) := rfl
theorem wC_s7 {cI cO : ClassId} {a ad : Nat → Nat} {C : CS} {g : Nat → Int32} : (wC cI cO a ad C).set 7 (a 7, .inl (cI, 400, .inl g)) = wC cI cO a ad (cru C 7 g) := rfl
theorem wC_s9 {cI cO : ClassId} {a ad : Nat → Nat} {C : CS} {g : Nat → Int32} : (wC cI cO a ad C).set 9 (a 9, .inl (cI, 400, .inl g)) = wC cI cO a ad (cru C 9 g) := rfl
theorem wC_s10 {cI cO : ClassId} {a ad : Nat → Nat} {C : CS} {g : Nat → Int32} : (wC cI cO a ad C).set 10 (a 10, .inl (cI, 400, .inl g)) = wC cI cO a ad (cru C 10 g) := rfl
theorem wC_s11 {cI cO : ClassId} {a ad : Nat → Nat} {C : CS} {g : Nat → Int32} : (wC cI cO a ad C).set 11 (a 11, .inl (cI, 400, .inl g)) = wC cI cO a ad (cru C 11 g) := rfl
theorem wC_s13 {cI cO : ClassId} {a ad : Nat → Nat} {C : CS} {g : Nat → Int32} : (wC cI cO a ad C).set 13 (a 13, .inl (cI, 1024, .inl g)) = wC cI cO a ad (cru C 13 g) := rfl
theorem wC_s14 {cI cO : ClassId} {a ad : Nat → Nat} {C : CS} {g : Nat → Int32} : (wC cI cO a ad C).set 14 (a 14, .inl (cI, 401, .inl g)) = wC cI cO a ad (cru C 14 g) := rfl
theorem wC_s15 {cI cO : ClassId} {a ad : Nat → Nat} {C : CS} {g : Nat → Int32} : (wC cI cO a ad C).set 15 (a 15, .inl (cI, 10, .inl g)) = wC cI cO a ad (cru C 15 g) := rfl
theorem wC_s16 {cI cO : ClassId} {a ad : Nat → Nat} {C : CS} {g : Nat → Int32} : (wC cI cO a ad C).set 16 (a 16, .inl (cI, 7, .inl g)) = wC cI cO a ad (cru C 16 g) := rfl
theorem wC_z0 {cI cO : ClassId} {a ad : Nat → Nat} {C : CS} {v : Int32} : (wC cI cO a ad C).set 0 (a 0, .inr (3, (oC a C).set 1 (.int v))) = wC cI cO a ad (czu C 0 v) := rfl
theorem wC_z1 {cI cO : ClassId} {a ad : Nat → Nat} {C : CS} {v : Int32} : (wC cI cO a ad C).set 0 (a 0, .inr (3, (oC a C).set 2 (.int v))) = wC cI cO a ad (czu C 1 v) := rfl
theorem wC_z2 {cI cO : ClassId} {a ad : Nat → Nat} {C : CS} {v : Int32} : (wC cI cO a ad C).set 0 (a 0, .inr (3, (oC a C).set 9 (.int v))) = wC cI cO a ad (czu C 2 v) := rfl
theorem wC_z3 {cI cO : ClassId} {a ad : Nat → Nat} {C : CS} {v : Int32} : (wC cI cO a ad C).set 4 (a 4, .inr (0, ([.ref (a 5), .ref (a 6), .ref (a 7), .int (cz C 3)] : List Value).set 3 (.int v))) = wC cI cO a ad (czu C 3 v) := rfl
theorem wC_z4 {cI cO : ClassId} {a ad : Nat → Nat} {C : CS} {v : Int32} : (wC cI cO a ad C).set 8 (a 8, .inr (0, ([.ref (a 9), .ref (a 10), .ref (a 11), .int (cz C 4)] : List Value).set 3 (.int v))) = wC cI cO a ad (czu C 4 v) := rfl
theorem hM_up {ad : Nat → Nat} {h : Nat → Option Nat} {i v : Nat} : va_up (hM ad h) i (some (ad (3 * v))) = hM ad (va_up h i (some v)) := by funext j; by_cases e : j = i <;> simp [hM, va_up, e]
theorem hM_no {ad : Nat → Nat} {h : Nat → Option Nat} {i : Nat} : va_up (hM ad h) i none = hM ad (va_up h i none) := by funext j; by_cases e : j = i <;> simp [hM, va_up, e]
theorem wC_o1 {cI cO : ClassId} {a ad : Nat → Nat} {C : CS} {i v : Nat} : (wC cI cO a ad C).set 1 (a 1, .inl (cO, 500, .inr (.inr (.inr (.inr (va_up (hM ad (co C 1)) i (some (ad (3 * v)))))))))  = wC cI cO a ad (cou C 1 (va_up (co C 1) i (some v))) := by rw [hM_up]; rfl
theorem wC_on1 {cI cO : ClassId} {a ad : Nat → Nat} {C : CS} {i : Nat} : (wC cI cO a ad C).set 1 (a 1, .inl (cO, 500, .inr (.inr (.inr (.inr (va_up (hM ad (co C 1)) i none))))))  = wC cI cO a ad (cou C 1 (va_up (co C 1) i none)) := by rw [hM_no]; rfl
theorem wC_o2 {cI cO : ClassId} {a ad : Nat → Nat} {C : CS} {i v : Nat} : (wC cI cO a ad C).set 2 (a 2, .inl (cO, 12, .inr (.inr (.inr (.inr (va_up (hM ad (co C 2)) i (some (ad (3 * v)))))))))  = wC cI cO a ad (cou C 2 (va_up (co C 2) i (some v))) := by rw [hM_up]; rfl
theorem wC_on2 {cI cO : ClassId} {a ad : Nat → Nat} {C : CS} {i : Nat} : (wC cI cO a ad C).set 2 (a 2, .inl (cO, 12, .inr (.inr (.inr (.inr (va_up (hM ad (co C 2)) i none))))))  = wC cI cO a ad (cou C 2 (va_up (co C 2) i none)) := by rw [hM_no]; rfl
section POOL
variable {cI : ClassId} {ad : Nat → Nat} {f : Nat → Nat → Int32} {q : Nat → Option Nat} {k : Nat → Nat} {g h : Nat → Nat → Int32}
theorem poolC_len (n : Nat) : (poolC cI ad f q k g h n).length = 3 * n := by
  induction n with
  | zero => rfl
  | succ n ih => simp only [poolC, List.length_append, ih, List.length_cons, List.length_nil]; omega
theorem poolC_get {v j : Nat} {e : Nat × va_E} (he : ([(ad (3 * v), .inr (2, vO ad f q v)), (ad (3 * v + 1), .inl (cI, k v, .inl (g v))), (ad (3 * v + 2), .inl (cI, k v, .inl (h v)))] : va_W)[j]? = some e) : ∀ n, v < n → (poolC cI ad f q k g h n)[3 * v + j]? = some e := by
  intro n hv
  induction n with
  | zero => omega
  | succ n ih =>
    have hj : j < 3 := (List.getElem?_eq_some_iff.mp he).1
    by_cases hvn : v < n
    · rw [poolC, List.getElem?_append_left (by rw [poolC_len]; omega)]
      exact ih hvn
    · have e1 : v = n := by omega
      subst e1
      rw [poolC, List.getElem?_append_right (by rw [poolC_len]; omega), poolC_len, show 3 * v + j - 3 * v = j by omega]
      exact he
theorem poolC_cong {f2 : Nat → Nat → Int32} {g2 h2 : Nat → Nat → Int32} : ∀ n, (∀ v, v < n → f v = f2 v ∧ g v = g2 v ∧ h v = h2 v) → poolC cI ad f q k g h n = poolC cI ad f2 q k g2 h2 n := by
  intro n hv
  induction n with
  | zero => rfl
  | succ n ih =>
    obtain ⟨e1, e2, e3⟩ := hv n (Nat.lt_succ_self n)
    rw [poolC, poolC, ih (fun v h => hv v (by omega)), vO, vO, e1, e2, e3]
theorem poolC_setf {v x : Nat} {y : Int32} (hx : x = 8) : ∀ n, v < n → (poolC cI ad f q k g h n).set (3 * v) (ad (3 * v), .inr (2, (vO ad f q v).set x (.int y))) = poolC cI ad (va_up f v (va_up (f v) x y)) q k g h n := by
  intro n hv
  subst hx
  induction n with
  | zero => omega
  | succ n ih =>
    by_cases hvn : v < n
    · rw [poolC, poolC, List.set_append_left _ _ (by rw [poolC_len]; omega), ih hvn]
      simp [vO, va_up, show ¬ n = v by omega]
    · have e1 : v = n := by omega
      subst e1
      rw [poolC, poolC, List.set_append_right _ _ (by rw [poolC_len]; omega), poolC_len, Nat.sub_self, poolC_cong (f2 := va_up f v (va_up (f v) 8 y)) v (fun u hu => ⟨(va_up_ne f _ (by omega : u ≠ v)).symm, rfl, rfl⟩)]
      simp [vO, va_up]
theorem poolC_setv {v : Nat} {g1 : Nat → Int32} : ∀ n, v < n → (poolC cI ad f q k g h n).set (3 * v + 1) (ad (3 * v + 1), .inl (cI, k v, .inl g1)) = poolC cI ad f q k (va_up g v g1) h n := by
  intro n hv
  induction n with
  | zero => omega
  | succ n ih =>
    by_cases hvn : v < n
    · rw [poolC, poolC, List.set_append_left _ _ (by rw [poolC_len]; omega), ih hvn]
      simp [vO, va_up, show ¬ n = v by omega]
    · have e1 : v = n := by omega
      subst e1
      rw [poolC, poolC, List.set_append_right _ _ (by rw [poolC_len]; omega), poolC_len, show 3 * v + 1 - 3 * v = 1 by omega, poolC_cong (g2 := va_up g v g1) v (fun u hu => ⟨rfl, (va_up_ne g _ (by omega : u ≠ v)).symm, rfl⟩)]
      simp [vO, va_up]
theorem poolC_setw {v : Nat} {g1 : Nat → Int32} : ∀ n, v < n → (poolC cI ad f q k g h n).set (3 * v + 2) (ad (3 * v + 2), .inl (cI, k v, .inl g1)) = poolC cI ad f q k g (va_up h v g1) n := by
  intro n hv
  induction n with
  | zero => omega
  | succ n ih =>
    by_cases hvn : v < n
    · rw [poolC, poolC, List.set_append_left _ _ (by rw [poolC_len]; omega), ih hvn]
      simp [vO, va_up, show ¬ n = v by omega]
    · have e1 : v = n := by omega
      subst e1
      rw [poolC, poolC, List.set_append_right _ _ (by rw [poolC_len]; omega), poolC_len, show 3 * v + 2 - 3 * v = 2 by omega, poolC_cong (h2 := va_up h v g1) v (fun u hu => ⟨rfl, rfl, (va_up_ne h _ (by omega : u ≠ v)).symm⟩)]
      simp [vO, va_up]
end POOL
theorem wC_v0 {cI cO : ClassId} {a ad : Nat → Nat} {C : CS} {v : Nat} (hv : v < cn C) : (wC cI cO a ad C)[17 + 3 * v]? = some (ad (3 * v), .inr (2, vO ad (cf C) (cp C) v)) := (List.getElem?_append_right (Nat.le_add_right 17 _)).trans (by rw [show 17 + 3 * v - (fixC cI cO a ad C).length = 3 * v + 0 by simp only [fixC, List.length_cons, List.length_nil]; omega]; exact poolC_get rfl _ hv)
theorem wC_v1 {cI cO : ClassId} {a ad : Nat → Nat} {C : CS} {v : Nat} (hv : v < cn C) : (wC cI cO a ad C)[17 + (3 * v + 1)]? = some (ad (3 * v + 1), .inl (cI, ck C v, .inl (cv C v))) := (List.getElem?_append_right (Nat.le_add_right 17 _)).trans (by rw [show 17 + (3 * v + 1) - (fixC cI cO a ad C).length = 3 * v + 1 by simp only [fixC, List.length_cons, List.length_nil]; omega]; exact poolC_get rfl _ hv)
theorem wC_v2 {cI cO : ClassId} {a ad : Nat → Nat} {C : CS} {v : Nat} (hv : v < cn C) : (wC cI cO a ad C)[17 + (3 * v + 2)]? = some (ad (3 * v + 2), .inl (cI, ck C v, .inl (cw C v))) := (List.getElem?_append_right (Nat.le_add_right 17 _)).trans (by rw [show 17 + (3 * v + 2) - (fixC cI cO a ad C).length = 3 * v + 2 by simp only [fixC, List.length_cons, List.length_nil]; omega]; exact poolC_get rfl _ hv)
theorem wC_sf {cI cO : ClassId} {a ad : Nat → Nat} {C : CS} {v : Nat} {y : Int32} (hv : v < cn C) : (wC cI cO a ad C).set (17 + 3 * v) (ad (3 * v), .inr (2, (vO ad (cf C) (cp C) v).set 8 (.int y))) = wC cI cO a ad (cfu C v 8 y) := (List.set_append_right _ _ (Nat.le_add_right 17 _)).trans (by rw [show 17 + 3 * v - (fixC cI cO a ad C).length = 3 * v by simp only [fixC, List.length_cons, List.length_nil]; omega, poolC_setf rfl _ hv]; rfl)
theorem wC_sv {cI cO : ClassId} {a ad : Nat → Nat} {C : CS} {v : Nat} {g : Nat → Int32} (hv : v < cn C) : (wC cI cO a ad C).set (17 + (3 * v + 1)) (ad (3 * v + 1), .inl (cI, ck C v, .inl g)) = wC cI cO a ad (cvu C v g) := (List.set_append_right _ _ (Nat.le_add_right 17 _)).trans (by rw [show 17 + (3 * v + 1) - (fixC cI cO a ad C).length = 3 * v + 1 by simp only [fixC, List.length_cons, List.length_nil]; omega, poolC_setv _ hv]; rfl)
theorem wC_sw {cI cO : ClassId} {a ad : Nat → Nat} {C : CS} {v : Nat} {g : Nat → Int32} (hv : v < cn C) : (wC cI cO a ad C).set (17 + (3 * v + 2)) (ad (3 * v + 2), .inl (cI, ck C v, .inl g)) = wC cI cO a ad (cwu C v g) := (List.set_append_right _ _ (Nat.le_add_right 17 _)).trans (by rw [show 17 + (3 * v + 2) - (fixC cI cO a ad C).length = 3 * v + 2 by simp only [fixC, List.length_cons, List.length_nil]; omega, poolC_setw _ hv]; rfl)
theorem wC_inj {cI cO : ClassId} {a ad : Nat → Nat} {C : CS} {D : va_G} {A : Nat → Prop} {H0 H : Heap} {locs : List Loc} (hH : HX D (wC cI cO a ad C) A H0 H locs) {v u : Nat} (hv : v < cn C) (hu : u < cn C) (e : ad (3 * v) = ad (3 * u)) : v = u := by have := hH.2.1.1 _ _ _ _ (wC_v0 hv) (wC_v0 hu) e; omega
