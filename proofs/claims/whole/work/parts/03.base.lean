/-! ===== words: the good ones of the tables, and those of the nest ===== -/
def gT : List Cond := lw_tbl.filter goodWord
def isNest : Cond → Bool
  | .fieldLinkNest .. => true
  | .methodLinkNest .. => true
  | .arrayOver (.object _) => true
  | _ => false
def nestL : List Cond := lw_tbl.filter isNest
def nwC (U : State) : Prop := ∀ w ∈ nestL, va_Nw w U
theorem gT_good {w : Cond} (h : w ∈ gT) : (w.onTables && w.keeps) = true ∨ ∃ ty, w = .arrayClass ty := good_of_word (List.mem_filter.mp h).2
theorem gT_in {c : Cond} (h : c ∈ gT) : GoodIn gT (c :: gT) := fun w hw => (List.mem_cons.mp hw).elim (fun e => e ▸ ⟨h, gT_good h⟩) (fun h2 => ⟨h2, gT_good h2⟩)
theorem gT_mk {w : Cond} (h : w ∈ lw_tbl) (h2 : goodWord w = true) : w ∈ gT := List.mem_filter.mpr ⟨h, h2⟩
theorem nestL_mk {w : Cond} (h : w ∈ lw_tbl) (h2 : isNest w = true) : w ∈ nestL := List.mem_filter.mpr ⟨h, h2⟩
theorem nw_warm {s U : State} (hW : s.WarmedH U.vm) (h : nwC s) : nwC U := by
  intro w hw
  have h1 := (List.mem_filter.mp hw).2
  have h2 := h w hw
  cases w with
  | fieldLinkNest a i b n d hh => exact va_Nw.warmF hW h2
  | methodLinkNest a i x hh => exact va_Nw.warmM hW h2
  | arrayOver t => cases t with
    | object C => exact va_AO.moved hW.alike h2
    | _ => exact absurd h1 (by simp [isNest])
  | _ => exact absurd h1 (by simp [isNest])
theorem nw_same {u U : State} (hv : u.vm = U.vm) (h : nwC u) : nwC U := by
  intro w hw
  have h1 := (List.mem_filter.mp hw).2
  have h2 := h w hw
  cases w with
  | fieldLinkNest a i b n d hh => exact va_Nw.same rfl hv h2
  | methodLinkNest a i x hh => exact va_Nw.same rfl hv h2
  | arrayOver t => cases t with
    | object C => exact va_AO.moved (u := u) (hv ▸ Vm.Alike.refl u.vm) h2
    | _ => exact absurd h1 (by simp [isNest])
  | _ => exact absurd h1 (by simp [isNest])
/-! ===== contracts over a world ===== -/
def rmA (d mc ms : Nat) : Room := { frames := d, cells := mc, slots := ms, locals := 30 * d }
def PX (D : va_G) (tys : List (ClassId × FieldType)) (w : va_W) (sz : Nat) : State → Prop := fun U => U.heap.size = sz ∧ va_P D vwCl w U.heap ∧ va_K D vwCl tys U ∧ va_D (fun _ => True) w ∧ nwC U
def BX {S : Type} (D : va_G) (wf : S → va_W) (A : Nat → Prop) : S → State → Prop := fun u t => va_P D vwCl (wf u) t.heap ∧ va_D A (wf u)
def HX (D : va_G) (w : va_W) (A : Nat → Prop) (H0 H : Heap) (locs : List Loc) : Prop := va_P D vwCl w H ∧ va_D A w ∧ va_S A H0 H locs ∧ ∀ q : Nat, H0.size ≤ q → A q
def Cx (p : Program) (s : State) (m : MethodId) (args : Array Value) (meth : Method) (c : Code) (cc : ByteArray) (nL : Nat) (own : String) (ret : Option FieldType) (D : va_G) (tys : List (ClassId × FieldType)) : Prop :=
  p.tables.exec = Jvm.exec ∧ c.code = cc ∧ c.maxLocals = nL ∧ s.vm.findClass own = some m.cls ∧ (∀ w ∈ gT, w.before args s = true) ∧ va_K D vwCl tys s ∧ nwC s ∧ meth.sig.returnType = ret ∧ meth.locks = false
abbrev QcT : Type := (Nat → Prop) → Array Value → State → Outcome → State → Prop
def MetX (l : Launch) (D : va_G) (tys : List (ClassId × FieldType)) (y : MethodName) (bytes : ByteArray) (maxL : Nat) (ret : Option FieldType) (d mc ms : Nat) (av : List Value) (w0 : va_W) (Qc : QcT) : Prop :=
  ∀ sz : Nat, Met l y (.code y bytes maxL ret :: gT) (rmA d mc ms) (va_Pc av (PX D tys w0 sz)) (Qc (va_A w0 sz)) mc ms (va_A w0 sz)
def QI {S : Type} (D : va_G) (wf : S → va_W) (post : Int32 → S → Prop) : QcT := fun A => va_Qi post (BX D wf A) A
def QL {S : Type} (D : va_G) (wf : S → va_W) (post : Int64 → S → Prop) : QcT := fun A => va_Ql post (BX D wf A) A
def QV {S : Type} (D : va_G) (wf : S → va_W) (post : S → Prop) : QcT := fun A => va_Qv post (BX D wf A) A
def QR {S : Type} (D : va_G) (wf : S → va_W) (rf : S → Nat) (post : S → Prop) : QcT := fun A => va_Qr post (fun u ra t => ra = rf u ∧ BX D wf A u t) A
def Yok (y : MethodName) (bytes : ByteArray) (maxL : Nat) (ret : Option FieldType) (n : Nat) : Prop := Cond.code y bytes maxL ret ∈ gT ∧ Cond.initialized y.cls ∈ gT ∧ (y.cls ≠ "java/lang/invoke/MethodHandle" ∧ y.cls ≠ "java/lang/invoke/VarHandle" ∧ (parseMethodDescriptor y.desc).map (fun d => d.parameters.length) = some n)
theorem PX_blind {D : va_G} {tys : List (ClassId × FieldType)} {w : va_W} {sz : Nat} {av : List Value} : FrameBlind (va_Pc av (PX D tys w sz)) := by
  intro a U g mk q
  obtain ⟨q0, q1, qP, qK, qD, qN⟩ := q
  exact ⟨q0, q1, qP, va_K.moved (u := U) (U := U.calling g mk a) (Vm.Alike.refl U.vm) qK, qD, nw_same (u := U) (U := U.calling g mk a) rfl qN⟩
theorem x_free {D : va_G} {w : va_W} {A : Nat → Prop} {H0 H : Heap} {locs : List Loc} (hH : HX D w A H0 H locs) : ∀ q, va_A w H.size q → A q := by
  intro q h
  rcases h with ⟨k, e, h⟩ | h
  · exact hH.2.1.2 k (q, e) h
  · exact hH.2.2.2 q (Nat.le_trans hH.2.2.1.1 h)
theorem x_ent {l : Launch} {D : va_G} {tys : List (ClassId × FieldType)} {y : MethodName} {bytes : ByteArray} {maxL : Nat} {ret : Option FieldType} {d mc ms : Nat} {av : List Value} {w0 : va_W} {Qc : QcT} (hy : plainName y.cls = true) (hlen : (lg_sl av).length ≤ maxL)
    (body : ∀ (p : Program) (e : Env) (s : State) (m : MethodId) (below : List Frame) (meth : Method) (c : Code) (ls : Array Slot), Cx p s m av.toArray meth c bytes maxL y.cls ret D tys → meth.name = y.name → HX D w0 (va_A w0 s.heap.size) s.heap s.heap [] → lv_has ls maxL (lv_args 0 av) → W p l e (rmA d mc ms) s m av.toArray below meth c s.heap [] 0 0 (MQ below (Qc (va_A w0 s.heap.size)) av.toArray s mc ms (va_A w0 s.heap.size)) (F0 m 0 ls [])) : MetX l D tys y bytes maxL ret d mc ms av w0 Qc := by
  intro sz
  refine Met.ofW (cc := bytes) (maxL := maxL) (ret := ret) hy rfl ?_
  intro p e s m args below meth c s₁ B hml hv
  obtain ⟨rfl, hsz, hP, hK, hD0, hN⟩ := hv
  subst hsz
  have hts := atoms_spec (ws := .code y bytes maxL ret :: gT) B.pre
  have hl := lv_entry av (n := maxL) hlen
  rw [lg_entry_eq]
  exact body p e s m below meth c _ ⟨B.exec, B.bytes, hml, findClass_of_methodNamed B.named, fun w h => hts w (List.mem_cons_of_mem _ h), hK, hN, B.returns, B.notSynchronized⟩ (name_of_methodNamed B.named B.method).1 ⟨hP, hD0.self, va_S.rf, fun q h => Or.inr h⟩ hl
section XROWS
variable {p : Program} {l : Launch} {e : Env} {R : Room} {s : State} {m : MethodId} {args : Array Value} {below : List Frame} {meth : Method} {c : Code} {H H0 : Heap} {locs : List Loc} {cells slots : Nat} {Q : State → Prop} {cc : ByteArray} {nL : Nat} {own : String} {rt : Option FieldType} {D : va_G} {tys : List (ClassId × FieldType)} {A : Nat → Prop} {w0 : va_W} {S : Type} {wf : S → va_W} {y : MethodName} {bytes : ByteArray} {maxL : Nat} {ret : Option FieldType} {d mc ms n index : Nat} {b : Nat} {As rest st : List Value} {pc : Nat} {ls : Array Slot}
theorem x_runV {Qc : QcT} (E : Cx p s m args meth c cc nL own rt D tys) (hM : MetX l D tys y bytes maxL ret d mc ms (.ref b :: As) w0 Qc) (hy : Yok y bytes maxL ret n) (hi : Cond.instanceMethod y ∈ gT ∧ Cond.selects y.cls y y ∈ gT) (hlink : Cond.methodLink own index y ∈ gT) (hR : d + 1 ≤ R.frames ∧ 8 + (maxL + 11) + 30 * d ≤ R.locals) (hcs : cells + mc ≤ R.cells ∧ slots + ms ≤ R.slots) (hH : HX D w0 A H0 H locs)
    (hrc : ∃ cellB : Cell, H[b]? = some cellB ∧ cellB.vm.isStatics = false ∧ s.vm.findClass y.cls = some cellB.cls) (hls : ls.size = nL) (hn : As.length = n) (hst : st = As.reverse ++ .ref b :: rest) (hrest : 2 * (F0 m pc ls st).monitorRoom + (rest.map fun v => v.category).sum ≤ 8) (hdg : decode cc pc = .ok (.invokevirtual index, 3)) :
    va_Run p l e R s m args below meth c H locs cells slots mc ms (F0 m pc ls st) rest (Qc (va_A w0 H.size) (Value.ref b :: As).toArray) (va_A w0 H.size) := by
  obtain ⟨hx, hb, hml, hown, hg, hK, hnw, hr, hlk⟩ := E
  exact va_runV (As := As) (rest := rest) (Ts := gT) ⟨hx, hb, hml, hown, hg⟩ (hM H.size) ⟨callB_of n hg (gT_in hy.1) rfl rfl rfl (hg _ hy.2.1) (hg _ hlink) hy.2.2 hR, hg _ hi.1, hg _ hi.2⟩ ⟨PX_blind, hrc, fun U hU hW => ⟨rfl, by rw [hU], by rw [hU]; exact hH.1, va_K.moved hW.alike hK, hH.2.1.weaken (fun _ _ _ _ => trivial), nw_warm hW hnw⟩⟩ rfl hn hls hst hrest hdg hcs
theorem x_runVN {Qc : QcT} {host : String} (E : Cx p s m args meth c cc nL own rt D tys) (hM : MetX l D tys y bytes maxL ret d mc ms (.ref b :: As) w0 Qc) (hy : Yok y bytes maxL ret n) (hi : Cond.instanceMethod y ∈ gT ∧ Cond.selects y.cls y y ∈ gT) (hlink : Cond.methodLinkNest own index y host ∈ nestL) (hR : d + 1 ≤ R.frames ∧ 8 + (maxL + 11) + 30 * d ≤ R.locals) (hcs : cells + mc ≤ R.cells ∧ slots + ms ≤ R.slots) (hH : HX D w0 A H0 H locs)
    (hrc : ∃ cellB : Cell, H[b]? = some cellB ∧ cellB.vm.isStatics = false ∧ s.vm.findClass y.cls = some cellB.cls) (hls : ls.size = nL) (hn : As.length = n) (hst : st = As.reverse ++ .ref b :: rest) (hrest : 2 * (F0 m pc ls st).monitorRoom + (rest.map fun v => v.category).sum ≤ 8) (hdg : decode cc pc = .ok (.invokevirtual index, 3)) :
    va_Run p l e R s m args below meth c H locs cells slots mc ms (F0 m pc ls st) rest (Qc (va_A w0 H.size) (Value.ref b :: As).toArray) (va_A w0 H.size) := by
  obtain ⟨hx, hb, hml, hown, hg, hK, hnw, hr, hlk⟩ := E
  exact va_runVN (As := As) (rest := rest) (Ts := gT) ⟨hx, hb, hml, hown, hg⟩ (hM H.size) ⟨va_cnB n hg (gT_in hy.1) rfl rfl rfl (hnw _ hlink) (hg _ hy.2.1) hy.2.2 hR, hg _ hi.1, hg _ hi.2⟩ ⟨PX_blind, hrc, fun U hU hW => ⟨rfl, by rw [hU], by rw [hU]; exact hH.1, va_K.moved hW.alike hK, hH.2.1.weaken (fun _ _ _ _ => trivial), nw_warm hW hnw⟩⟩ rfl hn hls hst hrest hdg hcs
theorem x_runS {Qc : QcT} (E : Cx p s m args meth c cc nL own rt D tys) (hM : MetX l D tys y bytes maxL ret d mc ms As w0 Qc) (hy : Yok y bytes maxL ret n) (hi : Cond.static y ∈ gT) (hlink : Cond.methodLink own index y ∈ gT) (hR : d + 1 ≤ R.frames ∧ 8 + (maxL + 11) + 30 * d ≤ R.locals) (hcs : cells + mc ≤ R.cells ∧ slots + ms ≤ R.slots) (hH : HX D w0 A H0 H locs)
    (hls : ls.size = nL) (hn : As.length = n) (hst : st = As.reverse ++ rest) (hrest : 2 * (F0 m pc ls st).monitorRoom + (rest.map fun v => v.category).sum ≤ 8) (hdg : decode cc pc = .ok (.invokestatic index, 3)) :
    va_Run p l e R s m args below meth c H locs cells slots mc ms (F0 m pc ls st) rest (Qc (va_A w0 H.size) As.toArray) (va_A w0 H.size) := by
  obtain ⟨hx, hb, hml, hown, hg, hK, hnw, hr, hlk⟩ := E
  exact va_runS (As := As) (rest := rest) (Ts := gT) ⟨hx, hb, hml, hown, hg⟩ (hM H.size) ⟨callB_of n hg (gT_in hy.1) rfl rfl rfl (hg _ hy.2.1) (hg _ hlink) hy.2.2 hR, hg _ hi⟩ ⟨PX_blind, fun U hU hW => ⟨rfl, by rw [hU], by rw [hU]; exact hH.1, va_K.moved hW.alike hK, hH.2.1.weaken (fun _ _ _ _ => trivial), nw_warm hW hnw⟩⟩ rfl hn hls hst hrest hdg hcs
theorem x_runI {Qc : QcT} (E : Cx p s m args meth c cc nL own rt D tys) (hM : MetX l D tys y bytes maxL none d mc ms (.ref b :: As) w0 Qc) (hy : Yok y bytes maxL none n) (hi : Cond.instanceMethod y ∈ gT ∧ y.name = "<init>") (hlink : Cond.methodLink own index y ∈ gT) (hR : d + 1 ≤ R.frames ∧ 8 + (maxL + 11) + 30 * d ≤ R.locals) (hcs : cells + mc ≤ R.cells ∧ slots + ms ≤ R.slots) (hH : HX D w0 A H0 H locs)
    (hls : ls.size = nL) (hn : As.length = n) (hst : st = As.reverse ++ .ref b :: rest) (hrest : 2 * (F0 m pc ls st).monitorRoom + (rest.map fun v => v.category).sum ≤ 8) (hdg : decode cc pc = .ok (.invokespecial index, 3)) :
    va_Run p l e R s m args below meth c H locs cells slots mc ms (F0 m pc ls st) rest (Qc (va_A w0 H.size) (Value.ref b :: As).toArray) (va_A w0 H.size) := by
  obtain ⟨hx, hb, hml, hown, hg, hK, hnw, hr, hlk⟩ := E
  exact va_runI (As := As) (rest := rest) (Ts := gT) ⟨hx, hb, hml, hown, hg⟩ (hM H.size) ⟨callB_of n hg (gT_in hy.1) rfl rfl rfl (hg _ hy.2.1) (hg _ hlink) hy.2.2 hR, hi.2, hg _ hi.1⟩ ⟨PX_blind, fun U hU hW => ⟨rfl, by rw [hU], by rw [hU]; exact hH.1, va_K.moved hW.alike hK, hH.2.1.weaken (fun _ _ _ _ => trivial), nw_warm hW hnw⟩⟩ rfl hn hls hst hrest hdg hcs
theorem x_runIN {Qc : QcT} {host : String} (E : Cx p s m args meth c cc nL own rt D tys) (hM : MetX l D tys y bytes maxL none d mc ms (.ref b :: As) w0 Qc) (hy : Yok y bytes maxL none n) (hi : Cond.instanceMethod y ∈ gT ∧ y.name = "<init>") (hlink : Cond.methodLinkNest own index y host ∈ nestL) (hR : d + 1 ≤ R.frames ∧ 8 + (maxL + 11) + 30 * d ≤ R.locals) (hcs : cells + mc ≤ R.cells ∧ slots + ms ≤ R.slots) (hH : HX D w0 A H0 H locs)
    (hls : ls.size = nL) (hn : As.length = n) (hst : st = As.reverse ++ .ref b :: rest) (hrest : 2 * (F0 m pc ls st).monitorRoom + (rest.map fun v => v.category).sum ≤ 8) (hdg : decode cc pc = .ok (.invokespecial index, 3)) :
    va_Run p l e R s m args below meth c H locs cells slots mc ms (F0 m pc ls st) rest (Qc (va_A w0 H.size) (Value.ref b :: As).toArray) (va_A w0 H.size) := by
  obtain ⟨hx, hb, hml, hown, hg, hK, hnw, hr, hlk⟩ := E
  exact va_runIN (As := As) (rest := rest) (Ts := gT) ⟨hx, hb, hml, hown, hg⟩ (hM H.size) ⟨va_cnB n hg (gT_in hy.1) rfl rfl rfl (hnw _ hlink) (hg _ hy.2.1) hy.2.2 hR, hi.2, hg _ hi.1⟩ ⟨PX_blind, fun U hU hW => ⟨rfl, by rw [hU], by rw [hU]; exact hH.1, va_K.moved hW.alike hK, hH.2.1.weaken (fun _ _ _ _ => trivial), nw_warm hW hnw⟩⟩ rfl hn hls hst hrest hdg hcs
/-- behind a call -/
theorem x_ci {post : Int32 → S → Prop} {a : Array Value} (hr : va_Run p l e R s m args below meth c H locs cells slots mc ms (F0 m pc ls st) rest (QI D wf post (va_A w0 H.size) a) (va_A w0 H.size)) (hH : HX D w0 A H0 H locs)
    (kk : ∀ (r : Int32) (u : S) (H1 : Heap) (locs1 : List Loc), post r u → HX D (wf u) A H0 H1 locs1 → W p l e R s m args below meth c H1 locs1 (cells + mc) (slots + ms) Q (F0 m (pc + 3) ls (.int r :: rest))) : W p l e R s m args below meth c H locs cells slots Q (F0 m pc ls st) := by
  have hF := x_free hH
  exact va_calli hr hH.2.2.1 (fun q _ h => hF q h) hF (fun r u t H1 locs1 ht hvm hw hB hz1 hk1 hS => kk r u H1 locs1 hw ⟨by rw [← ht]; exact hB.1, hB.2.weaken (fun _ q _ h => hF q.1 h), hS, hH.2.2.2⟩)
theorem x_cl {post : Int64 → S → Prop} {a : Array Value} (hr : va_Run p l e R s m args below meth c H locs cells slots mc ms (F0 m pc ls st) rest (QL D wf post (va_A w0 H.size) a) (va_A w0 H.size)) (hH : HX D w0 A H0 H locs)
    (kk : ∀ (r : Int64) (u : S) (H1 : Heap) (locs1 : List Loc), post r u → HX D (wf u) A H0 H1 locs1 → W p l e R s m args below meth c H1 locs1 (cells + mc) (slots + ms) Q (F0 m (pc + 3) ls (.long r :: rest))) : W p l e R s m args below meth c H locs cells slots Q (F0 m pc ls st) := by
  have hF := x_free hH
  exact va_calll hr hH.2.2.1 (fun q _ h => hF q h) hF (fun r u t H1 locs1 ht hvm hw hB hz1 hk1 hS => kk r u H1 locs1 hw ⟨by rw [← ht]; exact hB.1, hB.2.weaken (fun _ q _ h => hF q.1 h), hS, hH.2.2.2⟩)
theorem x_cv {post : S → Prop} {a : Array Value} (hr : va_Run p l e R s m args below meth c H locs cells slots mc ms (F0 m pc ls st) rest (QV D wf post (va_A w0 H.size) a) (va_A w0 H.size)) (hH : HX D w0 A H0 H locs)
    (kk : ∀ (u : S) (H1 : Heap) (locs1 : List Loc), post u → HX D (wf u) A H0 H1 locs1 → W p l e R s m args below meth c H1 locs1 (cells + mc) (slots + ms) Q (F0 m (pc + 3) ls rest)) : W p l e R s m args below meth c H locs cells slots Q (F0 m pc ls st) := by
  have hF := x_free hH
  exact va_callv hr hH.2.2.1 (fun q _ h => hF q h) hF (fun u t H1 locs1 ht hvm hw hB hz1 hk1 hS => kk u H1 locs1 hw ⟨by rw [← ht]; exact hB.1, hB.2.weaken (fun _ q _ h => hF q.1 h), hS, hH.2.2.2⟩)
theorem x_cr {post : S → Prop} {rf : S → Nat} {a : Array Value} (hr : va_Run p l e R s m args below meth c H locs cells slots mc ms (F0 m pc ls st) rest (QR D wf rf post (va_A w0 H.size) a) (va_A w0 H.size)) (hH : HX D w0 A H0 H locs)
    (kk : ∀ (u : S) (H1 : Heap) (locs1 : List Loc), post u → HX D (wf u) A H0 H1 locs1 → W p l e R s m args below meth c H1 locs1 (cells + mc) (slots + ms) Q (F0 m (pc + 3) ls (.ref (rf u) :: rest))) : W p l e R s m args below meth c H locs cells slots Q (F0 m pc ls st) := by
  have hF := x_free hH
  refine va_callr hr hH.2.2.1 (fun q _ h => hF q h) hF (fun u ra t H1 locs1 ht hvm hw hB hz1 hk1 hS => ?_)
  obtain ⟨rfl, hB1, hB2⟩ := hB
  exact kk u H1 locs1 hw ⟨by rw [← ht]; exact hB1, hB2.weaken (fun _ q _ h => hF q.1 h), hS, hH.2.2.2⟩
/-- a frame rule: what is called works on a part wc of the world wc ++ wr -/
theorem x_part {wc wr : va_W} (hH : HX D (wc ++ wr) A H0 H locs) : HX D wc A H0 H locs := by
  obtain ⟨hP, hD, hS, hA⟩ := hH
  have g : ∀ (k : Nat) (q : Nat × va_E), wc[k]? = some q → (wc ++ wr)[k]? = some q := fun k q h => by
    rw [List.getElem?_append_left (List.getElem?_eq_some_iff.mp h).1]; exact h
  exact ⟨fun k q h => hP k q (g k q h), ⟨fun i j p q hi hj => hD.1 i j p q (g i p hi) (g j q hj), fun k q h => hD.2 k q (g k q h)⟩, hS, hA⟩
theorem x_swap {wc wr : va_W} (hH : HX D (wc ++ wr) A H0 H locs) : HX D (wr ++ wc) A H0 H locs := by
  obtain ⟨hP, hD, hS, hA⟩ := hH
  have g : ∀ (k : Nat) (q : Nat × va_E), (wr ++ wc)[k]? = some q → (wc ++ wr)[if k < wr.length then wc.length + k else k - wr.length]? = some q := fun k q h => by
    by_cases hk : k < wr.length
    · rw [List.getElem?_append_left hk] at h
      rw [if_pos hk, List.getElem?_append_right (by omega), show wc.length + k - wc.length = k by omega]
      exact h
    · rw [List.getElem?_append_right (by omega)] at h
      rw [if_neg hk, List.getElem?_append_left (List.getElem?_eq_some_iff.mp h).1]
      exact h
  refine ⟨fun k q h => hP _ q (g k q h), ⟨fun i j p q hi hj e => ?_, fun k q h => hD.2 _ q (g k q h)⟩, hS, hA⟩
  have e1 := hD.1 _ _ p q (g i p hi) (g j q hj) e
  have li := (List.getElem?_eq_some_iff.mp hi).1
  have lj := (List.getElem?_eq_some_iff.mp hj).1
  rw [List.length_append] at li lj
  by_cases h1 : i < wr.length <;> by_cases h2 : j < wr.length <;> simp only [h1, h2, if_true, if_false] at e1 <;> omega
theorem x_back {wc wr w1 : va_W} {H1 : Heap} {locs1 : List Loc} (hH : HX D (wc ++ wr) A H0 H locs) (hk : ∀ q : Nat, q < H.size → ¬ va_A wc H.size q → H1[q]? = H[q]?) (hP1 : va_P D vwCl w1 H1) (hD1 : va_D (va_A wc H.size) w1) (hS : va_S A H0 H1 locs1) : HX D (w1 ++ wr) A H0 H1 locs1 := by
  have hF := x_free (x_part hH)
  obtain ⟨hP, hD, -, hA⟩ := hH
  have g : ∀ (k : Nat) (q : Nat × va_E), wr[k]? = some q → (wc ++ wr)[wc.length + k]? = some q := fun k q h => by
    rw [List.getElem?_append_right (by omega), show wc.length + k - wc.length = k by omega]; exact h
  have apart : ∀ (k : Nat) (q : Nat × va_E), wr[k]? = some q → q.1 < H.size ∧ ¬ va_A wc H.size q.1 := by
    intro k q hq
    have hl := (hP _ q (g k q hq)).lt
    refine ⟨hl, fun h => ?_⟩
    rcases h with ⟨k2, e, h⟩ | h
    · have l2 := (List.getElem?_eq_some_iff.mp h).1
      have h4 : (wc ++ wr)[k2]? = some (q.1, e) := by rw [List.getElem?_append_left l2]; exact h
      have := hD.1 _ _ q (q.1, e) (g k q hq) h4 rfl
      omega
    · omega
  refine ⟨va_P.app hP1 (fun k q hq => ?_), va_D.app (hD1.weaken (fun k q _ h => hF q.1 h)) ⟨fun i j p q hi hj e => ?_, fun k q h => hD.2 _ q (g k q h)⟩ (fun i j x y hx hy hxy => ?_), hS, hA⟩
  · exact (hP _ q (g k q hq)).kept (hk q.1 (apart k q hq).1 (apart k q hq).2)
  · have := hD.1 _ _ p q (g i p hi) (g j q hj) e
    omega
  · exact (apart j y hy).2 (by rw [← hxy]; exact hD1.2 i x hx)
theorem x_fi {wr : va_W} {post : Int32 → S → Prop} {a : Array Value} (hr : va_Run p l e R s m args below meth c H locs cells slots mc ms (F0 m pc ls st) rest (QI D wf post (va_A w0 H.size) a) (va_A w0 H.size)) (hH : HX D (w0 ++ wr) A H0 H locs)
    (kk : ∀ (r : Int32) (u : S) (H1 : Heap) (locs1 : List Loc), post r u → HX D (wf u ++ wr) A H0 H1 locs1 → W p l e R s m args below meth c H1 locs1 (cells + mc) (slots + ms) Q (F0 m (pc + 3) ls (.int r :: rest))) : W p l e R s m args below meth c H locs cells slots Q (F0 m pc ls st) := by
  have hF := x_free (x_part hH)
  exact va_calli hr hH.2.2.1 (fun q _ h => hF q h) hF (fun r u t H1 locs1 ht hvm hw hB hz1 hk1 hS => kk r u H1 locs1 hw (x_back hH hk1 (by rw [← ht]; exact hB.1) hB.2 hS))
theorem x_fl {wr : va_W} {post : Int64 → S → Prop} {a : Array Value} (hr : va_Run p l e R s m args below meth c H locs cells slots mc ms (F0 m pc ls st) rest (QL D wf post (va_A w0 H.size) a) (va_A w0 H.size)) (hH : HX D (w0 ++ wr) A H0 H locs)
    (kk : ∀ (r : Int64) (u : S) (H1 : Heap) (locs1 : List Loc), post r u → HX D (wf u ++ wr) A H0 H1 locs1 → W p l e R s m args below meth c H1 locs1 (cells + mc) (slots + ms) Q (F0 m (pc + 3) ls (.long r :: rest))) : W p l e R s m args below meth c H locs cells slots Q (F0 m pc ls st) := by
  have hF := x_free (x_part hH)
  exact va_calll hr hH.2.2.1 (fun q _ h => hF q h) hF (fun r u t H1 locs1 ht hvm hw hB hz1 hk1 hS => kk r u H1 locs1 hw (x_back hH hk1 (by rw [← ht]; exact hB.1) hB.2 hS))
theorem x_fv {wr : va_W} {post : S → Prop} {a : Array Value} (hr : va_Run p l e R s m args below meth c H locs cells slots mc ms (F0 m pc ls st) rest (QV D wf post (va_A w0 H.size) a) (va_A w0 H.size)) (hH : HX D (w0 ++ wr) A H0 H locs)
    (kk : ∀ (u : S) (H1 : Heap) (locs1 : List Loc), post u → HX D (wf u ++ wr) A H0 H1 locs1 → W p l e R s m args below meth c H1 locs1 (cells + mc) (slots + ms) Q (F0 m (pc + 3) ls rest)) : W p l e R s m args below meth c H locs cells slots Q (F0 m pc ls st) := by
  have hF := x_free (x_part hH)
  exact va_callv hr hH.2.2.1 (fun q _ h => hF q h) hF (fun u t H1 locs1 ht hvm hw hB hz1 hk1 hS => kk u H1 locs1 hw (x_back hH hk1 (by rw [← ht]; exact hB.1) hB.2 hS))
/-- returns -/
theorem x_iret {post : Int32 → S → Prop} {v : Int32} {u : S} (E : Cx p s m args meth c cc nL own (some .int) D tys) (hH : HX D (wf u) A s.heap H locs) (hp : post v u) (hdg : decode cc pc = .ok (.ireturn, 1)) : W p l e R s m args below meth c H locs cells slots (MQ below (QI D wf post A) args s cells slots A) (F0 m pc ls [.int v]) := by
  obtain ⟨hx, hb, hml, hown, hg, hK, hnw, hr, hlk⟩ := E
  exact W.iret (v := v) hx hb hr (fun t ht hW => ⟨⟨v, u, rfl, hp, by rw [ht]; exact hH.1, hH.2.1⟩, hH.2.2.1.F ht⟩) hH.2.2.1.2.2 hdg hlk
theorem x_zret {post : Int32 → S → Prop} {v : Int32} {u : S} (E : Cx p s m args meth c cc nL own (some .boolean) D tys) (hH : HX D (wf u) A s.heap H locs) (hp : post v u) (hn : narrow .boolean (.int v) = .int v) (hdg : decode cc pc = .ok (.ireturn, 1)) : W p l e R s m args below meth c H locs cells slots (MQ below (QI D wf post A) args s cells slots A) (F0 m pc ls [.int v]) := by
  obtain ⟨hx, hb, hml, hown, hg, hK, hnw, hr, hlk⟩ := E
  exact W.zret (v := v) hx hb hr hn (fun t ht hW => ⟨⟨v, u, rfl, hp, by rw [ht]; exact hH.1, hH.2.1⟩, hH.2.2.1.F ht⟩) hH.2.2.1.2.2 hdg hlk
theorem x_lret {post : Int64 → S → Prop} {v : Int64} {u : S} (E : Cx p s m args meth c cc nL own (some .long) D tys) (hH : HX D (wf u) A s.heap H locs) (hp : post v u) (hdg : decode cc pc = .ok (.lreturn, 1)) : W p l e R s m args below meth c H locs cells slots (MQ below (QL D wf post A) args s cells slots A) (F0 m pc ls [.long v]) := by
  obtain ⟨hx, hb, hml, hown, hg, hK, hnw, hr, hlk⟩ := E
  exact W.lret (v := v) hx hb hr (fun t ht hW => ⟨⟨v, u, rfl, hp, by rw [ht]; exact hH.1, hH.2.1⟩, hH.2.2.1.F ht⟩) hH.2.2.1.2.2 hdg hlk
theorem x_vret {post : S → Prop} {u : S} (E : Cx p s m args meth c cc nL own none D tys) (hH : HX D (wf u) A s.heap H locs) (hp : post u) (hdg : decode cc pc = .ok (.return_, 1)) : W p l e R s m args below meth c H locs cells slots (MQ below (QV D wf post A) args s cells slots A) (F0 m pc ls []) := by
  obtain ⟨hx, hb, hml, hown, hg, hK, hnw, hr, hlk⟩ := E
  exact W.vret hx hb hr (fun t ht hW => ⟨⟨u, rfl, hp, by rw [ht]; exact hH.1, hH.2.1⟩, hH.2.2.1.F ht⟩) hH.2.2.1.2.2 hdg hlk
theorem x_aret {post : S → Prop} {rf : S → Nat} {u : S} {cn : String} (E : Cx p s m args meth c cc nL own (some (.object cn)) D tys) (hH : HX D (wf u) A s.heap H locs) (hp : post u) (hdg : decode cc pc = .ok (.areturn, 1)) : W p l e R s m args below meth c H locs cells slots (MQ below (QR D wf rf post A) args s cells slots A) (F0 m pc ls [.ref (rf u)]) := by
  obtain ⟨hx, hb, hml, hown, hg, hK, hnw, hr, hlk⟩ := E
  exact W.aret (v := .ref (rf u)) hx hb hr (Or.inl ⟨cn, rfl⟩) (Or.inr ⟨_, rfl⟩) (fun t ht hW => ⟨⟨u, rf u, rfl, hp, rfl, by rw [ht]; exact hH.1, hH.2.1⟩, hH.2.2.1.F ht⟩) hH.2.2.1.2.2 hdg hlk
/-- fields and arrays -/
theorem x_get {CN : String} {T : u_T} {N ci : Nat} {fs : List Value} {v : Value} (E : Cx p s m args meth c cc nL own rt D tys) (hin : ∀ w ∈ u_ws CN T N, w ∈ gT) (hH : HX D w0 A H0 H locs) (q0 : Nat) (he : w0[q0]? = some (b, .inr (ci, fs))) (hc : vwCl[ci]? = some (CN, T, N)) (k : Nat) (hk : k < N) (hlink : Cond.fieldLink own index (T k).1 (T k).2.1 (T k).2.2.1 ∈ gT) (hv : fs[k]? = some v) (hdg : decode cc pc = .ok (.getfield index, 3))
    (kk : W p l e R s m args below meth c H locs cells slots Q (F0 m (pc + 3) ls (v :: rest))) : W p l e R s m args below meth c H locs cells slots Q (F0 m pc ls (.ref b :: rest)) := by
  obtain ⟨hx, hb, hml, hown, hg, hK, hnw, hr, hlk⟩ := E
  exact va_get hx hb hg hin hown hK hH.1 q0 he hc k hk (hg _ hlink) (fun _ h9 => h9) hv hdg kk
theorem x_getN {CN host : String} {T : u_T} {N ci : Nat} {fs : List Value} {v : Value} (E : Cx p s m args meth c cc nL own rt D tys) (hin : ∀ w ∈ u_ws CN T N, w ∈ gT) (hH : HX D w0 A H0 H locs) (q0 : Nat) (he : w0[q0]? = some (b, .inr (ci, fs))) (hc : vwCl[ci]? = some (CN, T, N)) (k : Nat) (hk : k < N) (hlink : Cond.fieldLinkNest own index (T k).1 (T k).2.1 (T k).2.2.1 host ∈ nestL) (hv : fs[k]? = some v) (hdg : decode cc pc = .ok (.getfield index, 3))
    (kk : W p l e R s m args below meth c H locs cells slots Q (F0 m (pc + 3) ls (v :: rest))) : W p l e R s m args below meth c H locs cells slots Q (F0 m pc ls (.ref b :: rest)) := by
  obtain ⟨hx, hb, hml, hown, hg, hK, hnw, hr, hlk⟩ := E
  exact va_getN hx hb hg hin hown hK hH.1 q0 he hc k hk (va_Nw.use rfl (hnw _ hlink)) (fun _ h9 => h9) hv hdg kk
theorem x_puti {CN : String} {T : u_T} {N ci : Nat} {fs : List Value} {v : Int32} {w1 : va_W} (E : Cx p s m args meth c cc nL own rt D tys) (hin : ∀ w ∈ u_ws CN T N, w ∈ gT) (ty0 : Nat → FieldType) (hty : ∀ k, k < N → parseFieldDescriptor (T k).2.2.1 = some (ty0 k)) (hnm : ∀ a, a < N → ∀ b, b < N → a ≠ b → (T a).2.1 ≠ (T b).2.1) (hH : HX D w0 A H0 H locs) (q0 : Nat) (he : w0[q0]? = some (b, .inr (ci, fs))) (hc : vwCl[ci]? = some (CN, T, N)) (k : Nat) (hk : k < N) (hlink : Cond.fieldLink own index (T k).1 (T k).2.1 (T k).2.2.1 ∈ gT) (hfin : (T k).2.2.2 = false) (hd : parseFieldDescriptor (T k).2.2.1 = some .int) (hl : k < fs.length) (hw : w0.set q0 (b, .inr (ci, fs.set k (.int v))) = w1) (hdg : decode cc pc = .ok (.putfield index, 3))
    (kk : ∀ (H1 : Heap) (locs1 : List Loc), HX D w1 A H0 H1 locs1 → W p l e R s m args below meth c H1 locs1 cells slots Q (F0 m (pc + 3) ls rest)) : W p l e R s m args below meth c H locs cells slots Q (F0 m pc ls (.int v :: .ref b :: rest)) := by
  obtain ⟨hx, hb, hml, hown, hg, hK, hnw, hr, hlk⟩ := E
  exact va_put (ty := .int) hx hb hg hin ty0 hty hnm hown hK hH.1 hH.2.1 hH.2.2.1 q0 he hc k hk (hg _ hlink) (fun _ h9 => h9) hfin hd rfl rfl hl hdg (fun H1 locs1 hP hD hS => kk H1 locs1 ⟨hw ▸ hP, hw ▸ hD, hS, hH.2.2.2⟩)
theorem x_putiN {CN host : String} {T : u_T} {N ci : Nat} {fs : List Value} {v : Int32} {w1 : va_W} (E : Cx p s m args meth c cc nL own rt D tys) (hin : ∀ w ∈ u_ws CN T N, w ∈ gT) (ty0 : Nat → FieldType) (hty : ∀ k, k < N → parseFieldDescriptor (T k).2.2.1 = some (ty0 k)) (hnm : ∀ a, a < N → ∀ b, b < N → a ≠ b → (T a).2.1 ≠ (T b).2.1) (hH : HX D w0 A H0 H locs) (q0 : Nat) (he : w0[q0]? = some (b, .inr (ci, fs))) (hc : vwCl[ci]? = some (CN, T, N)) (k : Nat) (hk : k < N) (hlink : Cond.fieldLinkNest own index (T k).1 (T k).2.1 (T k).2.2.1 host ∈ nestL) (hfin : (T k).2.2.2 = false) (hd : parseFieldDescriptor (T k).2.2.1 = some .int) (hl : k < fs.length) (hw : w0.set q0 (b, .inr (ci, fs.set k (.int v))) = w1) (hdg : decode cc pc = .ok (.putfield index, 3))
    (kk : ∀ (H1 : Heap) (locs1 : List Loc), HX D w1 A H0 H1 locs1 → W p l e R s m args below meth c H1 locs1 cells slots Q (F0 m (pc + 3) ls rest)) : W p l e R s m args below meth c H locs cells slots Q (F0 m pc ls (.int v :: .ref b :: rest)) := by
  obtain ⟨hx, hb, hml, hown, hg, hK, hnw, hr, hlk⟩ := E
  exact va_putN (ty := .int) hx hb hg hin ty0 hty hnm hown hK hH.1 hH.2.1 hH.2.2.1 q0 he hc k hk (va_Nw.use rfl (hnw _ hlink)) (fun _ h9 => h9) hfin hd rfl rfl hl hdg (fun H1 locs1 hP hD hS => kk H1 locs1 ⟨hw ▸ hP, hw ▸ hD, hS, hH.2.2.2⟩)
theorem x_iald {cA : ClassId} {N : Nat} {f : Nat → Int32} {i : Int32} (E : Cx p s m args meth c cc nL own rt D tys) (hH : HX D w0 A H0 H locs) (q0 t0 : Nat) (ha : w0[q0]? = some (b, .inl (cA, N, .inl f))) (ht : tys[t0]? = some (cA, .int)) (hin : vp_in i N) (hdg : decode cc pc = .ok (.iaload, 1))
    (kk : W p l e R s m args below meth c H locs cells slots Q (F0 m (pc + 1) ls (.int (f i.toNatClampNeg) :: rest))) : W p l e R s m args below meth c H locs cells slots Q (F0 m pc ls (.int i :: .ref b :: rest)) := by
  obtain ⟨hx, hb, hml, hown, hg, hK, hnw, hr, hlk⟩ := E
  exact va_iald hx hb hK hH.1 q0 t0 ha ht hin hdg kk
theorem x_sald {cA : ClassId} {N : Nat} {f : Nat → Int32} {i : Int32} (E : Cx p s m args meth c cc nL own rt D tys) (hH : HX D w0 A H0 H locs) (q0 t0 : Nat) (ha : w0[q0]? = some (b, .inl (cA, N, .inl f))) (ht : tys[t0]? = some (cA, .short)) (hin : vp_in i N) (hdg : decode cc pc = .ok (.saload, 1))
    (kk : W p l e R s m args below meth c H locs cells slots Q (F0 m (pc + 1) ls (.int (f i.toNatClampNeg) :: rest))) : W p l e R s m args below meth c H locs cells slots Q (F0 m pc ls (.int i :: .ref b :: rest)) := by
  obtain ⟨hx, hb, hml, hown, hg, hK, hnw, hr, hlk⟩ := E
  exact va_sald hx hb hK hH.1 q0 t0 ha ht hin hdg kk
theorem x_aald {cA : ClassId} {N : Nat} {f : Nat → Option Nat} {i : Int32} {CN : String} (E : Cx p s m args meth c cc nL own rt D tys) (hH : HX D w0 A H0 H locs) (q0 t0 : Nat) (ha : w0[q0]? = some (b, .inl (cA, N, .inr (.inr (.inr (.inr f)))))) (ht : tys[t0]? = some (cA, .object CN)) (hin : vp_in i N) (hdg : decode cc pc = .ok (.aaload, 1))
    (kk : W p l e R s m args below meth c H locs cells slots Q (F0 m (pc + 1) ls (va_rf (f i.toNatClampNeg) :: rest))) : W p l e R s m args below meth c H locs cells slots Q (F0 m pc ls (.int i :: .ref b :: rest)) := by
  obtain ⟨hx, hb, hml, hown, hg, hK, hnw, hr, hlk⟩ := E
  exact va_aldq hx hb hK hH.1 q0 t0 ha ht hin hdg kk
theorem x_iast {cA : ClassId} {N : Nat} {f : Nat → Int32} {i x : Int32} {w1 : va_W} (E : Cx p s m args meth c cc nL own rt D tys) (hH : HX D w0 A H0 H locs) (q0 t0 : Nat) (ha : w0[q0]? = some (b, .inl (cA, N, .inl f))) (ht : tys[t0]? = some (cA, .int)) (hin : vp_in i N) (hw : w0.set q0 (b, .inl (cA, N, .inl (upd f i.toNatClampNeg x))) = w1) (hdg : decode cc pc = .ok (.iastore, 1))
    (kk : ∀ (H1 : Heap) (locs1 : List Loc), HX D w1 A H0 H1 locs1 → W p l e R s m args below meth c H1 locs1 cells slots Q (F0 m (pc + 1) ls rest)) : W p l e R s m args below meth c H locs cells slots Q (F0 m pc ls (.int x :: .int i :: .ref b :: rest)) := by
  obtain ⟨hx, hb, hml, hown, hg, hK, hnw, hr, hlk⟩ := E
  exact va_iast hx hb hK hH.1 hH.2.1 hH.2.2.1 q0 t0 ha ht hin hdg (fun H1 locs1 hP hD hS => kk H1 locs1 ⟨hw ▸ hP, hw ▸ hD, hS, hH.2.2.2⟩)
theorem x_sast {cA : ClassId} {N : Nat} {f : Nat → Int32} {i x : Int32} {w1 : va_W} (E : Cx p s m args meth c cc nL own rt D tys) (hH : HX D w0 A H0 H locs) (q0 t0 : Nat) (ha : w0[q0]? = some (b, .inl (cA, N, .inl f))) (ht : tys[t0]? = some (cA, .short)) (hin : vp_in i N) (hw : w0.set q0 (b, .inl (cA, N, .inl (upd f i.toNatClampNeg (vp_nar .short x)))) = w1) (hdg : decode cc pc = .ok (.sastore, 1))
    (kk : ∀ (H1 : Heap) (locs1 : List Loc), HX D w1 A H0 H1 locs1 → W p l e R s m args below meth c H1 locs1 cells slots Q (F0 m (pc + 1) ls rest)) : W p l e R s m args below meth c H locs cells slots Q (F0 m pc ls (.int x :: .int i :: .ref b :: rest)) := by
  obtain ⟨hx, hb, hml, hown, hg, hK, hnw, hr, hlk⟩ := E
  exact va_sast hx hb hK hH.1 hH.2.1 hH.2.2.1 q0 t0 ha ht hin hdg (fun H1 locs1 hP hD hS => kk H1 locs1 ⟨hw ▸ hP, hw ▸ hD, hS, hH.2.2.2⟩)
theorem x_alen {cA : ClassId} {x : vp_A} {ty : FieldType} (E : Cx p s m args meth c cc nL own rt D tys) (hH : HX D w0 A H0 H locs) (q0 t0 : Nat) (ha : w0[q0]? = some (b, .inl (cA, x))) (ht : tys[t0]? = some (cA, ty)) (hdg : decode cc pc = .ok (.arraylength, 1))
    (kk : W p l e R s m args below meth c H locs cells slots Q (F0 m (pc + 1) ls (.int (nI x.1) :: rest))) : W p l e R s m args below meth c H locs cells slots Q (F0 m pc ls (.ref b :: rest)) := by
  obtain ⟨hx, hb, hml, hown, hg, hK, hnw, hr, hlk⟩ := E
  exact va_alen hx hb hK hH.1 q0 t0 ha ht rfl hdg kk
/-- references that may be null, by the version's number -/
def rv (ad : Nat → Nat) (w : Option Nat) : Value := va_rf (w.map (fun v => ad (3 * v)))
theorem q_aload_n {k : Fin 4} {i : Nat} {ad : Nat → Nat} {x : Option Nat} (hexec : p.tables.exec = Jvm.exec) (hb : c.code = cc) (hdg : decode cc pc = .ok (.aload_n k, 1)) (hi : (k : Nat) = i) (hl : ls[i]? = some (.val (rv ad x)))
    (kk : W p l e R s m args below meth c H locs cells slots Q (F0 m (pc + 1) ls (rv ad x :: rest))) : W p l e R s m args below meth c H locs cells slots Q (F0 m pc ls rest) := by
  cases x with
  | none => exact lv_aload_nN hexec hb hdg hi hl kk
  | some v => exact lv_aload_n hexec hb hdg hi hl kk
theorem q_aload {i : Nat} {ad : Nat → Nat} {x : Option Nat} (hexec : p.tables.exec = Jvm.exec) (hb : c.code = cc) (hdg : decode cc pc = .ok (.aload i, 2)) (hl : ls[i]? = some (.val (rv ad x)))
    (kk : W p l e R s m args below meth c H locs cells slots Q (F0 m (pc + 2) ls (rv ad x :: rest))) : W p l e R s m args below meth c H locs cells slots Q (F0 m pc ls rest) := by
  cases x with
  | none => exact lv_aloadN hexec hb hdg hl kk
  | some v => exact lv_aload hexec hb hdg hl kk
theorem q_astore_n {k : Fin 4} {i : Nat} {ad : Nat → Nat} {x : Option Nat} {lv lv' : List (Nat × Value)} (hexec : p.tables.exec = Jvm.exec) (hb : c.code = cc) (hdg : decode cc pc = .ok (.astore_n k, 1)) (hi : (k : Nat) = i) (h : lv_has ls nL lv) (hn : i < nL) (hl : ∀ v : Value, (i, v) :: lv.filter (fun q => !(q.1 == i) && !(q.1 + 1 == i && q.2.category == 2)) = (i, v) :: lv')
    (kk : ∀ ls' : Array Slot, lv_has ls' nL ((i, rv ad x) :: lv') → W p l e R s m args below meth c H locs cells slots Q (F0 m (pc + 1) ls' rest)) : W p l e R s m args below meth c H locs cells slots Q (F0 m pc ls (rv ad x :: rest)) := by
  cases x with
  | none => exact lv_astore_nN hexec hb hdg hi h hn (hl _) kk
  | some v => exact lv_astore_n hexec hb hdg hi h hn (hl _) kk
theorem q_astore {i : Nat} {ad : Nat → Nat} {x : Option Nat} {lv lv' : List (Nat × Value)} (hexec : p.tables.exec = Jvm.exec) (hb : c.code = cc) (hdg : decode cc pc = .ok (.astore i, 2)) (h : lv_has ls nL lv) (hn : i < nL) (hl : ∀ v : Value, (i, v) :: lv.filter (fun q => !(q.1 == i) && !(q.1 + 1 == i && q.2.category == 2)) = (i, v) :: lv')
    (kk : ∀ ls' : Array Slot, lv_has ls' nL ((i, rv ad x) :: lv') → W p l e R s m args below meth c H locs cells slots Q (F0 m (pc + 2) ls' rest)) : W p l e R s m args below meth c H locs cells slots Q (F0 m pc ls (rv ad x :: rest)) := by
  cases x with
  | none => exact lv_astoreN hexec hb hdg h hn (hl _) kk
  | some v => exact lv_astore hexec hb hdg h hn (hl _) kk
theorem q_ifnull {off : Int} {tgt : Nat} {ad : Nat → Nat} {x : Option Nat} (hexec : p.tables.exec = Jvm.exec) (hb : c.code = cc) (hdg : decode cc pc = .ok (.ifnull off, 3)) (ht : (pc : Int) + off = (tgt : Int))
    (kt : x = none → W p l e R s m args below meth c H locs cells slots Q (F0 m tgt ls rest)) (kf : ¬ x = none → W p l e R s m args below meth c H locs cells slots Q (F0 m (pc + 3) ls rest)) : W p l e R s m args below meth c H locs cells slots Q (F0 m pc ls (rv ad x :: rest)) := by
  cases x with
  | none => exact lv_ifnullN hexec hb hdg ht (kt rfl)
  | some v => exact lv_ifnull hexec hb hdg (kf (fun h => by cases h))
theorem q_ifnonnull {off : Int} {tgt : Nat} {ad : Nat → Nat} {x : Option Nat} (hexec : p.tables.exec = Jvm.exec) (hb : c.code = cc) (hdg : decode cc pc = .ok (.ifnonnull off, 3)) (ht : (pc : Int) + off = (tgt : Int))
    (kt : ¬ x = none → W p l e R s m args below meth c H locs cells slots Q (F0 m tgt ls rest)) (kf : x = none → W p l e R s m args below meth c H locs cells slots Q (F0 m (pc + 3) ls rest)) : W p l e R s m args below meth c H locs cells slots Q (F0 m pc ls (rv ad x :: rest)) := by
  cases x with
  | none => exact lv_ifnonnullN hexec hb hdg (kf rfl)
  | some v => exact lv_ifnonnull hexec hb hdg ht (kt (fun h => by cases h))
end XROWS
