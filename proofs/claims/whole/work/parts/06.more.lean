section XMORE2
variable {p : Program} {l : Launch} {e : Env} {R : Room} {s : State} {m : MethodId} {args : Array Value} {below : List Frame} {meth : Method} {c : Code} {H H0 : Heap} {locs : List Loc} {cells slots : Nat} {Q : State → Prop} {cc : ByteArray} {D : va_G} {A : Nat → Prop} {rest : List Value} {pc : Nat} {ls : Array Slot}
theorem q_acmp_eq {cI cO : ClassId} {a ad : Nat → Nat} {C : CS} {off : Int} {tgt : Nat} {x y : Option Nat} (hH : HX D (wC cI cO a ad C) A H0 H locs) (h1 : oK C x) (h2 : oK C y) (hexec : p.tables.exec = Jvm.exec) (hb : c.code = cc) (hdg : decode cc pc = .ok (.if_acmp .eq off, 3)) (ht : (pc : Int) + off = (tgt : Int))
    (kt : x = y → W p l e R s m args below meth c H locs cells slots Q (F0 m tgt ls rest)) (kf : ¬ x = y → W p l e R s m args below meth c H locs cells slots Q (F0 m (pc + 3) ls rest)) : W p l e R s m args below meth c H locs cells slots Q (F0 m pc ls (rv ad y :: rv ad x :: rest)) := by
  refine lv_acmp_eq (rx := x.map (fun v => ad (3 * v))) (ry := y.map (fun v => ad (3 * v))) hexec hb hdg ht (fun he => kt ?_) (fun hne => kf (fun e => hne (by rw [e])))
  cases x with
  | none => cases y with
    | none => rfl
    | some u => cases he
  | some v => cases y with
    | none => cases he
    | some u => rw [wC_inj hH (h1 v rfl) (h2 u rfl) (Option.some.inj he)]
end XMORE2
