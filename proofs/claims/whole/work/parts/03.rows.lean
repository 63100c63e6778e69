/-! ROWS over the world: fields, arrays, references that may be null, calls, ends -/
section ROWS
variable {p : Program} {l : Launch} {e : Env} {R : Room} {s : State} {m : MethodId} {args : Array Value} {below : List Frame} {meth : Method} {c : Code} {H : Heap} {locs : List Loc} {cells slots : Nat} {Q : State → Prop} {cc : ByteArray} {pc : Nat} {ls : Array Slot} {rest : List Value} {D : va_G} {cA : Nat → ClassId} {z : Nat} {ad : Nat → Nat → Nat} {N : TN} {S S' : TS} {P P' : TP} {M M' : TS}
theorem r_one {cl : List vw_C} {a : Nat} {x : va_E} (h : va_at D cl (a, x) H) : va_P D cl [(a, x)] H := fun k q hk => by
  have hz : k < 1 := (List.getElem?_eq_some_iff.mp hk).1
  rw [show k = 0 by omega] at hk
  cases hk
  exact h
theorem r_at (hW : Wd D cA z ad N S P M H) {k i : Nat} (hi : i < N k) {x : va_E} (he : EE cA ad S P M k i = x) : va_at D vwCl (ad k i, x) H := he ▸ hW.1 k i hi
theorem r_get (hexec : p.tables.exec = Jvm.exec) (hb : c.code = cc) {own C : String} {T : u_T} {Nf ci index : Nat} {Ts : List Cond} (hts : ∀ w ∈ Ts, w.before args s = true) (hin : ∀ w ∈ u_ws C T Nf, w ∈ Ts) (hown : s.vm.findClass own = some m.cls) (hK : va_K D vwCl (tysW cA) s) (hW : Wd D cA z ad N S P M H) (k i : Nat) (hi : i < N k) {fs : List Value} (he : EE cA ad S P M k i = .inr (ci, fs)) (hc : vwCl[ci]? = some (C, T, Nf)) (j : Nat) (hj : j < Nf) (hlink : (Cond.fieldLink own index (T j).1 (T j).2.1 (T j).2.2.1).before args s = true) {v : Value} (hv : fs[j]? = some v) (hdg : decode cc pc = .ok (.getfield index, 3))
    (kk : W p l e R s m args below meth c H locs cells slots Q (F0 m (pc + 3) ls (v :: rest))) : W p l e R s m args below meth c H locs cells slots Q (F0 m pc ls (.ref (ad k i) :: rest)) :=
  va_get hexec hb hts hin hown hK (r_one (r_at hW hi he)) 0 rfl hc j hj hlink (fun _ h => h) hv hdg kk
theorem r_getN (hexec : p.tables.exec = Jvm.exec) (hb : c.code = cc) {own C host : String} {T : u_T} {Nf ci index : Nat} {Ts : List Cond} (hts : ∀ w ∈ Ts, w.before args s = true) (hin : ∀ w ∈ u_ws C T Nf, w ∈ Ts) (hown : s.vm.findClass own = some m.cls) (hK : va_K D vwCl (tysW cA) s) (hW : Wd D cA z ad N S P M H) (k i : Nat) (hi : i < N k) {fs : List Value} (he : EE cA ad S P M k i = .inr (ci, fs)) (hc : vwCl[ci]? = some (C, T, Nf)) (j : Nat) (hj : j < Nf) (hlink : va_Nw (.fieldLinkNest own index (T j).1 (T j).2.1 (T j).2.2.1 host) s) {v : Value} (hv : fs[j]? = some v) (hdg : decode cc pc = .ok (.getfield index, 3))
    (kk : W p l e R s m args below meth c H locs cells slots Q (F0 m (pc + 3) ls (v :: rest))) : W p l e R s m args below meth c H locs cells slots Q (F0 m pc ls (.ref (ad k i) :: rest)) :=
  va_getN hexec hb hts hin hown hK (r_one (r_at hW hi he)) 0 rfl hc j hj (va_Nw.use rfl hlink) (fun _ h => h) hv hdg kk

theorem r_put (hexec : p.tables.exec = Jvm.exec) (hb : c.code = cc) {own C : String} {T : u_T} {Nf ci index : Nat} {Ts : List Cond} (hts : ∀ w ∈ Ts, w.before args s = true) (hin : ∀ w ∈ u_ws C T Nf, w ∈ Ts) (ty0 : Nat → FieldType) (hty : ∀ k, k < Nf → parseFieldDescriptor (T k).2.2.1 = some (ty0 k)) (hnm : ∀ a, a < Nf → ∀ b, b < Nf → a ≠ b → (T a).2.1 ≠ (T b).2.1) (hown : s.vm.findClass own = some m.cls) (hK : va_K D vwCl (tysW cA) s) (hW : Wd D cA z ad N S P M H) (hS0 : va_S (fun q => z ≤ q) s.heap H locs) (k i : Nat) (hi : i < N k) {fs : List Value} (he : EE cA ad S P M k i = .inr (ci, fs)) (hc : vwCl[ci]? = some (C, T, Nf)) (j : Nat) (hj : j < Nf) (hlink : (Cond.fieldLink own index (T j).1 (T j).2.1 (T j).2.2.1).before args s = true) (hfin : (T j).2.2.2 = false) {ty : FieldType} {v : Value} (hd : parseFieldDescriptor (T j).2.2.1 = some ty) (hn : narrow ty v = v) (hfit : fits ty v = true) (hl : j < fs.length)
    (he' : EE cA ad S' P' M' k i = .inr (ci, fs.set j v)) (hne : ∀ k' i', i' < N k' → ¬(k' = k ∧ i' = i) → EE cA ad S' P' M' k' i' = EE cA ad S P M k' i') (hV : Vd N P') (hdg : decode cc pc = .ok (.putfield index, 3)) (kk : ∀ (H1 : Heap) (locs1 : List Loc), Wd D cA z ad N S' P' M' H1 → va_S (fun q => z ≤ q) s.heap H1 locs1 → W p l e R s m args below meth c H1 locs1 cells slots Q (F0 m (pc + 3) ls rest)) : W p l e R s m args below meth c H locs cells slots Q (F0 m pc ls (v :: .ref (ad k i) :: rest)) := by
  have hap := va_apart (own := own) hts hin ty0 hty hnm hK hc
  obtain ⟨r, h1, cell, q1, q2, q3, q4⟩ := r_at hW hi he
  have hr : r = (C, T, Nf) := Option.some.inj (h1.symm.trans hc)
  subst hr
  obtain ⟨hS, hfc, kC, hkC, hkind⟩ := hK.1 ci _ hc
  obtain ⟨cf, kf, fi, f, hf, hsl⟩ := hS j hj
  have hlay := hts _ (hin _ (u_in_lay hj))
  unfold u_lay at hlay
  rw [if_neg (by rw [hfin]; decide)] at hlay
  have hst := (u_facts hfc hkC (u_lays hts hin hj) hf).1
  have h6 := u_store hfc hkC hkind hlay hf hd hn hfit
  refine W.putK hexec hb (f := f) ⟨hown, hlink, ⟨_, _, _, hf⟩, hst⟩ (by rw [q2]; exact h6) q1 q3 (by rw [hsl]; exact k2_hasslot (q4 j hj)) rfl rfl hdg fun H' e1 e2 e3 => ?_
  rw [hsl] at e1 ⊢
  refine kk H' _ (hW.set hi ?_ e3 hne hV) (hS0.put e2 e3 (hW.2.2.1 k i hi))
  rw [he']
  exact ⟨_, hc, t_OB.to (V := updV (vp_V fs) j v) ⟨_, e1, q2, q3, t_set q4 hap hj v⟩ (fun j' _ => vp_updV_set hl v j')⟩

theorem r_putN (hexec : p.tables.exec = Jvm.exec) (hb : c.code = cc) {own C host : String} {T : u_T} {Nf ci index : Nat} {Ts : List Cond} (hts : ∀ w ∈ Ts, w.before args s = true) (hin : ∀ w ∈ u_ws C T Nf, w ∈ Ts) (ty0 : Nat → FieldType) (hty : ∀ k, k < Nf → parseFieldDescriptor (T k).2.2.1 = some (ty0 k)) (hnm : ∀ a, a < Nf → ∀ b, b < Nf → a ≠ b → (T a).2.1 ≠ (T b).2.1) (hown : s.vm.findClass own = some m.cls) (hK : va_K D vwCl (tysW cA) s) (hW : Wd D cA z ad N S P M H) (hS0 : va_S (fun q => z ≤ q) s.heap H locs) (k i : Nat) (hi : i < N k) {fs : List Value} (he : EE cA ad S P M k i = .inr (ci, fs)) (hc : vwCl[ci]? = some (C, T, Nf)) (j : Nat) (hj : j < Nf) (hlink : va_Nw (.fieldLinkNest own index (T j).1 (T j).2.1 (T j).2.2.1 host) s) (hfin : (T j).2.2.2 = false) {ty : FieldType} {v : Value} (hd : parseFieldDescriptor (T j).2.2.1 = some ty) (hn : narrow ty v = v) (hfit : fits ty v = true) (hl : j < fs.length)
    (he' : EE cA ad S' P' M' k i = .inr (ci, fs.set j v)) (hne : ∀ k' i', i' < N k' → ¬(k' = k ∧ i' = i) → EE cA ad S' P' M' k' i' = EE cA ad S P M k' i') (hV : Vd N P') (hdg : decode cc pc = .ok (.putfield index, 3)) (kk : ∀ (H1 : Heap) (locs1 : List Loc), Wd D cA z ad N S' P' M' H1 → va_S (fun q => z ≤ q) s.heap H1 locs1 → W p l e R s m args below meth c H1 locs1 cells slots Q (F0 m (pc + 3) ls rest)) : W p l e R s m args below meth c H locs cells slots Q (F0 m pc ls (v :: .ref (ad k i) :: rest)) := by
  have hap := va_apart (own := own) hts hin ty0 hty hnm hK hc
  obtain ⟨r, h1, cell, q1, q2, q3, q4⟩ := r_at hW hi he
  have hr : r = (C, T, Nf) := Option.some.inj (h1.symm.trans hc)
  subst hr
  obtain ⟨hS, hfc, kC, hkC, hkind⟩ := hK.1 ci _ hc
  obtain ⟨cf, kf, fi, f, hf, hsl⟩ := hS j hj
  have hlay := hts _ (hin _ (u_in_lay hj))
  unfold u_lay at hlay
  rw [if_neg (by rw [hfin]; decide)] at hlay
  have hst := (u_facts hfc hkC (u_lays hts hin hj) hf).1
  have h6 := u_store hfc hkC hkind hlay hf hd hn hfit
  refine va_WputK hexec hb (f := f) hown (va_Nw.use rfl hlink) hf hst (by rw [q2]; exact h6) q1 q3 (by rw [hsl]; exact k2_hasslot (q4 j hj)) rfl rfl hdg fun H' e1 e2 e3 => ?_
  rw [hsl] at e1 ⊢
  refine kk H' _ (hW.set hi ?_ e3 hne hV) (hS0.put e2 e3 (hW.2.2.1 k i hi))
  rw [he']
  exact ⟨_, hc, t_OB.to (V := updV (vp_V fs) j v) ⟨_, e1, q2, q3, t_set q4 hap hj v⟩ (fun j' _ => vp_updV_set hl v j')⟩

theorem r_putF (hexec : p.tables.exec = Jvm.exec) (hb : c.code = cc) {own C : String} {T : u_T} {Nf ci index : Nat} {Ts : List Cond} (hts : ∀ w ∈ Ts, w.before args s = true) (hin : ∀ w ∈ u_ws C T Nf, w ∈ Ts) (ty0 : Nat → FieldType) (hty : ∀ k, k < Nf → parseFieldDescriptor (T k).2.2.1 = some (ty0 k)) (hnm : ∀ a, a < Nf → ∀ b, b < Nf → a ≠ b → (T a).2.1 ≠ (T b).2.1) (hown : s.vm.findClass own = some m.cls) (hK : va_K D vwCl (tysW cA) s) (hW : Wd D cA z ad N S P M H) (hS0 : va_S (fun q => z ≤ q) s.heap H locs) (k i : Nat) (hi : i < N k) {fs : List Value} (he : EE cA ad S P M k i = .inr (ci, fs)) (hc : vwCl[ci]? = some (C, T, Nf)) (j : Nat) (hj : j < Nf) (hlink : (Cond.fieldLink own index (T j).1 (T j).2.1 (T j).2.2.1).before args s = true) (hfin : (T j).2.2.2 = true ∧ meth.name = "<init>" ∧ (T j).1 = own) {ty : FieldType} {v : Value} (hd : parseFieldDescriptor (T j).2.2.1 = some ty) (hn : narrow ty v = v) (hfit : fits ty v = true) (hl : j < fs.length)
    (he' : EE cA ad S' P' M' k i = .inr (ci, fs.set j v)) (hne : ∀ k' i', i' < N k' → ¬(k' = k ∧ i' = i) → EE cA ad S' P' M' k' i' = EE cA ad S P M k' i') (hV : Vd N P') (hdg : decode cc pc = .ok (.putfield index, 3)) (kk : ∀ (H1 : Heap) (locs1 : List Loc), Wd D cA z ad N S' P' M' H1 → va_S (fun q => z ≤ q) s.heap H1 locs1 → W p l e R s m args below meth c H1 locs1 cells slots Q (F0 m (pc + 3) ls rest)) : W p l e R s m args below meth c H locs cells slots Q (F0 m pc ls (v :: .ref (ad k i) :: rest)) := by
  have hap := va_apart (own := own) hts hin ty0 hty hnm hK hc
  obtain ⟨r, h1, cell, q1, q2, q3, q4⟩ := r_at hW hi he
  have hr : r = (C, T, Nf) := Option.some.inj (h1.symm.trans hc)
  subst hr
  obtain ⟨hS, hfc, kC, hkC, hkind⟩ := hK.1 ci _ hc
  obtain ⟨cf, kf, fi, f, hf, hsl⟩ := hS j hj
  have hlay := hts _ (hin _ (u_in_lay hj))
  unfold u_lay at hlay
  rw [if_pos hfin.1] at hlay
  have hst := (u_facts hfc hkC (u_lays hts hin hj) hf).1
  have hcf : m.cls = cf := by
    obtain ⟨_, _, c', _, _, _, -, -, hf', -, -, -, hown2, -⟩ := Cond.laysFinal_spec hlay
    have e1 : c' = cf := by have := hf.symm.trans hf'; simp at this; exact this.1.symm
    rw [hfin.2.2] at hown2
    rw [← e1]; exact Option.some.inj (hown.symm.trans hown2)
  have h6 := u_fits hfc hkC hkind (Or.inr hlay) hf hd hn hfit
  refine W.putFinK hexec hb hown hlink hf hst hcf hfin.2.1 (by rw [q2]; exact h6) q1 q3 (by rw [hsl]; exact k2_hasslot (q4 j hj)) rfl rfl hdg fun H' e1 e2 e3 => ?_
  rw [hsl] at e1 ⊢
  refine kk H' _ (hW.set hi ?_ e3 hne hV) (hS0.put e2 e3 (hW.2.2.1 k i hi))
  rw [he']
  exact ⟨_, hc, t_OB.to (V := updV (vp_V fs) j v) ⟨_, e1, q2, q3, t_set q4 hap hj v⟩ (fun j' _ => vp_updV_set hl v j')⟩

theorem r_iald (hexec : p.tables.exec = Jvm.exec) (hb : c.code = cc) (hK : va_K D vwCl (tysW cA) s) (hW : Wd D cA z ad N S P M H) (k i : Nat) (hi : i < N k) {n : Nat} {f : Nat → Int32} (he : EE cA ad S P M k i = .inl (cA 0, n, .inl f)) {x : Int32} {j : Nat} (hj : ix x n = some j) (hdg : decode cc pc = .ok (.iaload, 1))
    (kk : W p l e R s m args below meth c H locs cells slots Q (F0 m (pc + 1) ls (.int (f j) :: rest))) : W p l e R s m args below meth c H locs cells slots Q (F0 m pc ls (.int x :: .ref (ad k i) :: rest)) := by
  obtain ⟨h1, rfl⟩ := ix_some hj
  exact va_iald hexec hb hK (r_one (r_at hW hi he)) 0 0 rfl rfl h1 hdg kk
theorem r_zald (hexec : p.tables.exec = Jvm.exec) (hb : c.code = cc) (hK : va_K D vwCl (tysW cA) s) (hW : Wd D cA z ad N S P M H) (k i : Nat) (hi : i < N k) {n : Nat} {f : Nat → Int32} (he : EE cA ad S P M k i = .inl (cA 1, n, .inl f)) {x : Int32} {j : Nat} (hj : ix x n = some j) (hdg : decode cc pc = .ok (.baload, 1))
    (kk : W p l e R s m args below meth c H locs cells slots Q (F0 m (pc + 1) ls (.int (f j) :: rest))) : W p l e R s m args below meth c H locs cells slots Q (F0 m pc ls (.int x :: .ref (ad k i) :: rest)) := by
  obtain ⟨h1, rfl⟩ := ix_some hj
  exact va_zald hexec hb hK (r_one (r_at hW hi he)) 0 1 rfl rfl h1 hdg kk
theorem r_aald (hexec : p.tables.exec = Jvm.exec) (hb : c.code = cc) (hK : va_K D vwCl (tysW cA) s) (hW : Wd D cA z ad N S P M H) (k i : Nat) (hi : i < N k) {t n ek : Nat} {C : String} {f : Nat → Option Nat} (he : EE cA ad S P M k i = .inl (cA t, n, .inr (.inr (.inr (.inr (fun j => (f j).map (ad ek))))))) (ht : (tysW cA)[t]? = some (cA t, .object C)) {x : Int32} {j : Nat} (hj : ix x n = some j) {r : Option Nat} (hr : r = f j) (hdg : decode cc pc = .ok (.aaload, 1))
    (kk : W p l e R s m args below meth c H locs cells slots Q (F0 m (pc + 1) ls (va_rf (r.map (ad ek)) :: rest))) : W p l e R s m args below meth c H locs cells slots Q (F0 m pc ls (.int x :: .ref (ad k i) :: rest)) := by
  obtain ⟨h1, rfl⟩ := ix_some hj
  subst hr
  exact va_aldq hexec hb hK (r_one (r_at hW hi he)) 0 t rfl ht h1 hdg kk
theorem r_alen (hexec : p.tables.exec = Jvm.exec) (hb : c.code = cc) (hK : va_K D vwCl (tysW cA) s) (hW : Wd D cA z ad N S P M H) (k i : Nat) (hi : i < N k) {t : Nat} {x : vp_A} (he : EE cA ad S P M k i = .inl (cA t, x)) {ty : FieldType} (ht : (tysW cA)[t]? = some (cA t, ty)) {v : Int32} (hv : Int32.ofNat x.1 = v) (hdg : decode cc pc = .ok (.arraylength, 1))
    (kk : W p l e R s m args below meth c H locs cells slots Q (F0 m (pc + 1) ls (.int v :: rest))) : W p l e R s m args below meth c H locs cells slots Q (F0 m pc ls (.ref (ad k i) :: rest)) :=
  va_alen hexec hb hK (r_one (r_at hW hi he)) 0 t rfl ht hv hdg kk
theorem r_iast (hexec : p.tables.exec = Jvm.exec) (hb : c.code = cc) (hK : va_K D vwCl (tysW cA) s) (hW : Wd D cA z ad N S P M H) (hS0 : va_S (fun q => z ≤ q) s.heap H locs) (k i : Nat) (hi : i < N k) {n : Nat} {f : Nat → Int32} (he : EE cA ad S P M k i = .inl (cA 0, n, .inl f)) {x v : Int32} {j : Nat} (hj : ix x n = some j) (he' : EE cA ad S' P' M' k i = .inl (cA 0, n, .inl (upd f j v))) (hne : ∀ k' i', i' < N k' → ¬(k' = k ∧ i' = i) → EE cA ad S' P' M' k' i' = EE cA ad S P M k' i') (hV : Vd N P') (hdg : decode cc pc = .ok (.iastore, 1))
    (kk : ∀ (H1 : Heap) (locs1 : List Loc), Wd D cA z ad N S' P' M' H1 → va_S (fun q => z ≤ q) s.heap H1 locs1 → W p l e R s m args below meth c H1 locs1 cells slots Q (F0 m (pc + 1) ls rest)) : W p l e R s m args below meth c H locs cells slots Q (F0 m pc ls (.int v :: .int x :: .ref (ad k i) :: rest)) := by
  obtain ⟨h1, rfl⟩ := ix_some hj
  refine W.iast hexec hb (r_at hW hi he) ((hK.2 0 _ rfl).1 n (fun j => .int (f j))) (fun q => by cases q) (by show ¬ (x < 0 ∨ (arrV _ _ _).slots.size ≤ _); rw [arrV_size]; exact h1) rfl rfl hdg fun H1 e z' oq => ?_
  refine kk H1 _ (hW.set hi ?_ oq hne hV) (hS0.put z' oq (hW.2.2.1 k i hi))
  rw [he']
  show H1[ad k i]? = some (vp_cell _ _)
  rw [e]
  show some ((vp_cell _ _).setSlot _ _) = _
  rw [vp_cell_i, vp_cell_i, arrV_store]
  congr 2
  funext q
  by_cases hq : q = x.toNatClampNeg
  · subst hq; simp [updV, upd]
  · simp [updV, upd, hq]
theorem r_zast (hexec : p.tables.exec = Jvm.exec) (hb : c.code = cc) (hK : va_K D vwCl (tysW cA) s) (hW : Wd D cA z ad N S P M H) (hS0 : va_S (fun q => z ≤ q) s.heap H locs) (k i : Nat) (hi : i < N k) {n : Nat} {f : Nat → Int32} (he : EE cA ad S P M k i = .inl (cA 1, n, .inl f)) {x v : Int32} (hn : narrow .boolean (.int v) = .int v) {j : Nat} (hj : ix x n = some j) (he' : EE cA ad S' P' M' k i = .inl (cA 1, n, .inl (upd f j v))) (hne : ∀ k' i', i' < N k' → ¬(k' = k ∧ i' = i) → EE cA ad S' P' M' k' i' = EE cA ad S P M k' i') (hV : Vd N P') (hdg : decode cc pc = .ok (.bastore, 1))
    (kk : ∀ (H1 : Heap) (locs1 : List Loc), Wd D cA z ad N S' P' M' H1 → va_S (fun q => z ≤ q) s.heap H1 locs1 → W p l e R s m args below meth c H1 locs1 cells slots Q (F0 m (pc + 1) ls rest)) : W p l e R s m args below meth c H locs cells slots Q (F0 m pc ls (.int v :: .int x :: .ref (ad k i) :: rest)) := by
  obtain ⟨h1, rfl⟩ := ix_some hj
  refine W.zast hexec hb (r_at hW hi he) ((hK.2 1 _ rfl).1 n (fun j => .int (f j))) (fun q => by cases q) (by show ¬ (x < 0 ∨ (arrV _ _ _).slots.size ≤ _); rw [arrV_size]; exact h1) rfl rfl hdg fun H1 e z' oq => ?_
  refine kk H1 _ (hW.set hi ?_ oq hne hV) (hS0.put z' oq (hW.2.2.1 k i hi))
  rw [he']
  show H1[ad k i]? = some (vp_cell _ _)
  rw [e, hn]
  show some ((vp_cell _ _).setSlot _ _) = _
  rw [vp_cell_i, vp_cell_i, arrV_store]
  congr 2
  funext q
  by_cases hq : q = x.toNatClampNeg
  · subst hq; simp [updV, upd]
  · simp [updV, upd, hq]
theorem r_aast (hexec : p.tables.exec = Jvm.exec) (hb : c.code = cc) (hK : va_K D vwCl (tysW cA) s) (hW : Wd D cA z ad N S P M H) (hS0 : va_S (fun q => z ≤ q) s.heap H locs) (k i : Nat) (hi : i < N k) {t n ek : Nat} {C : String} {q3 : vw_C} {f : Nat → Option Nat} (he : EE cA ad S P M k i = .inl (cA t, n, .inr (.inr (.inr (.inr (fun j => (f j).map (ad ek))))))) (ht : (tysW cA)[t]? = some (cA t, .object C)) (hc : vwCl[ek]? = some q3) (hC : q3.1 = C) {r : Option Nat} (hr : ∀ y, r = some y → y < N ek) (hek : ∀ y, ∃ fs, EE cA ad S P M ek y = .inr (ek, fs)) {x : Int32} {j : Nat} (hj : ix x n = some j) (he' : EE cA ad S' P' M' k i = .inl (cA t, n, .inr (.inr (.inr (.inr (fun j' => ((va_up f j r) j').map (ad ek))))))) (hne : ∀ k' i', i' < N k' → ¬(k' = k ∧ i' = i) → EE cA ad S' P' M' k' i' = EE cA ad S P M k' i') (hV : Vd N P') (hdg : decode cc pc = .ok (.aastore, 1))
    (kk : ∀ (H1 : Heap) (locs1 : List Loc), Wd D cA z ad N S' P' M' H1 → va_S (fun q => z ≤ q) s.heap H1 locs1 → W p l e R s m args below meth c H1 locs1 cells slots Q (F0 m (pc + 1) ls rest)) : W p l e R s m args below meth c H locs cells slots Q (F0 m pc ls (va_rf (r.map (ad ek)) :: .int x :: .ref (ad k i) :: rest)) := by
  obtain ⟨h1, rfl⟩ := ix_some hj
  have hlt : x.toNatClampNeg < n := Nat.not_le.mp fun q => h1 (Or.inr q)
  have h0 : ¬ x < 0 := fun q => h1 (Or.inl q)
  have fin : ∀ (H1 : Heap), H1[ad k i]? = some ((vp_cell (cA t) (n, .inr (.inr (.inr (.inr (fun j => (f j).map (ad ek))))))).setSlot x.toNatClampNeg (va_rf (r.map (ad ek)))) → va_at D vwCl (ad k i, EE cA ad S' P' M' k i) H1 := by
    intro H1 e
    rw [he']
    show H1[ad k i]? = some (vp_cell _ _)
    rw [e, vp_cell_q, vp_cell_q, arrV_store]
    congr 2
    funext q
    by_cases hq : q = x.toNatClampNeg
    · subst hq; simp [updV, va_up]
    · simp [updV, va_up, hq]
  cases r with
  | none =>
    refine va_WaastN (C := C) hexec hb (r_at hW hi he) ((hK.2 t _ ht).1 n (fun j => va_rf ((f j).map (ad ek)))) (fun h => by cases h) (by show ¬ (x < 0 ∨ (arrV _ _ _).slots.size ≤ _); rw [arrV_size]; exact h1) rfl rfl hdg fun H1 e z' oq => ?_
    exact kk H1 _ (hW.set hi (fin H1 e) oq hne hV) (hS0.put z' oq (hW.2.2.1 k i hi))
  | some y =>
    obtain ⟨fs, hfs⟩ := hek y
    obtain ⟨r', hr', cellV, g1, g2, g3, -⟩ := r_at hW (hr y rfl) hfs
    have hcls := (hK.1 ek q3 hc).2
    obtain ⟨kA, comp, k1, k2, k3, -⟩ := (hK.2 t _ ht).2
    rw [hC] at hcls
    have hcomp : comp = D.1 ek := Option.some.inj (k3.symm.trans hcls.1)
    subst hcomp
    obtain ⟨kC, hkC, -⟩ := hcls.2
    refine W.aast hexec hb (r_at hW hi he) (fun q h => by cases h) (fun h => by cases h) k1 k2 rfl hkC ⟨h0, by show _ < (arrV _ _ _).slots.size; rw [arrV_size]; exact hlt⟩ g1 (fun q h => by rw [g3] at h; cases h) (by rw [g2]; exact hkC) (by rw [g2]; exact va_assign hcls) rfl rfl hdg fun H1 e z' oq => ?_
    exact kk H1 _ (hW.set hi (fin H1 e) oq hne hV) (hS0.put z' oq (hW.2.2.1 k i hi))

theorem q_aload_n (hexec : p.tables.exec = Jvm.exec) (hb : c.code = cc) {k : Fin 4} {i : Nat} {r : Option Nat} (hdg : decode cc pc = .ok (.aload_n k, 1)) (hi : (k : Nat) = i) (hl : ls[i]? = some (.val (va_rf r)))
    (kk : W p l e R s m args below meth c H locs cells slots Q (F0 m (pc + 1) ls (va_rf r :: rest))) : W p l e R s m args below meth c H locs cells slots Q (F0 m pc ls rest) := by
  cases r with
  | none => exact lv_aload_nN hexec hb hdg hi hl kk
  | some a => exact lv_aload_n hexec hb hdg hi hl kk
theorem q_aload (hexec : p.tables.exec = Jvm.exec) (hb : c.code = cc) {i : Nat} {r : Option Nat} (hdg : decode cc pc = .ok (.aload i, 2)) (hl : ls[i]? = some (.val (va_rf r)))
    (kk : W p l e R s m args below meth c H locs cells slots Q (F0 m (pc + 2) ls (va_rf r :: rest))) : W p l e R s m args below meth c H locs cells slots Q (F0 m pc ls rest) := by
  cases r with
  | none => exact lv_aloadN hexec hb hdg hl kk
  | some a => exact lv_aload hexec hb hdg hl kk
theorem q_astore_n (hexec : p.tables.exec = Jvm.exec) (hb : c.code = cc) {k : Fin 4} {i nL : Nat} {r : Option Nat} {lv lv' : List (Nat × Value)} (hdg : decode cc pc = .ok (.astore_n k, 1)) (hi : (k : Nat) = i) (h : lv_has ls nL lv) (hn : i < nL) (hl : (i, va_rf r) :: lv.filter (fun q => !(q.1 == i) && !(q.1 + 1 == i && q.2.category == 2)) = lv')
    (kk : ∀ ls' : Array Slot, lv_has ls' nL lv' → W p l e R s m args below meth c H locs cells slots Q (F0 m (pc + 1) ls' rest)) : W p l e R s m args below meth c H locs cells slots Q (F0 m pc ls (va_rf r :: rest)) := by
  cases r with
  | none => exact lv_astore_nN hexec hb hdg hi h hn hl kk
  | some a => exact lv_astore_n hexec hb hdg hi h hn hl kk
theorem q_astore (hexec : p.tables.exec = Jvm.exec) (hb : c.code = cc) {i nL : Nat} {r : Option Nat} {lv lv' : List (Nat × Value)} (hdg : decode cc pc = .ok (.astore i, 2)) (h : lv_has ls nL lv) (hn : i < nL) (hl : (i, va_rf r) :: lv.filter (fun q => !(q.1 == i) && !(q.1 + 1 == i && q.2.category == 2)) = lv')
    (kk : ∀ ls' : Array Slot, lv_has ls' nL lv' → W p l e R s m args below meth c H locs cells slots Q (F0 m (pc + 2) ls' rest)) : W p l e R s m args below meth c H locs cells slots Q (F0 m pc ls (va_rf r :: rest)) := by
  cases r with
  | none => exact lv_astoreN hexec hb hdg h hn hl kk
  | some a => exact lv_astore hexec hb hdg h hn hl kk
theorem q_ifnull (hexec : p.tables.exec = Jvm.exec) (hb : c.code = cc) {r : Option Nat} {f : Nat → Nat} {off : Int} {tgt : Nat} (hdg : decode cc pc = .ok (.ifnull off, 3)) (ht : (pc : Int) + off = (tgt : Int))
    (kt : r = none → W p l e R s m args below meth c H locs cells slots Q (F0 m tgt ls rest)) (kf : ∀ x, r = some x → W p l e R s m args below meth c H locs cells slots Q (F0 m (pc + 3) ls rest)) : W p l e R s m args below meth c H locs cells slots Q (F0 m pc ls (va_rf (r.map f) :: rest)) := by
  cases r with
  | none => exact lv_ifnullN hexec hb hdg ht (kt rfl)
  | some a => exact lv_ifnull hexec hb hdg (kf a rfl)
theorem q_ifnonnull (hexec : p.tables.exec = Jvm.exec) (hb : c.code = cc) {r : Option Nat} {f : Nat → Nat} {off : Int} {tgt : Nat} (hdg : decode cc pc = .ok (.ifnonnull off, 3)) (ht : (pc : Int) + off = (tgt : Int))
    (kt : ∀ x, r = some x → W p l e R s m args below meth c H locs cells slots Q (F0 m tgt ls rest)) (kf : r = none → W p l e R s m args below meth c H locs cells slots Q (F0 m (pc + 3) ls rest)) : W p l e R s m args below meth c H locs cells slots Q (F0 m pc ls (va_rf (r.map f) :: rest)) := by
  cases r with
  | none => exact lv_ifnonnullN hexec hb hdg (kf rfl)
  | some a => exact lv_ifnonnull hexec hb hdg ht (kt a rfl)
theorem q_map_inj (hW : Wd D cA z ad N S P M H) {k : Nat} {r1 r2 : Option Nat} (h1 : ∀ x, r1 = some x → x < N k) (h2 : ∀ x, r2 = some x → x < N k) : r1.map (ad k) = r2.map (ad k) ↔ r1 = r2 := by
  constructor
  · intro h
    cases r1 with
    | none => cases r2 with
      | none => rfl
      | some y => cases h
    | some x => cases r2 with
      | none => cases h
      | some y => exact congrArg some (hW.2.1 k x k y (h1 x rfl) (h2 y rfl) (Option.some.inj h)).2
  · rintro rfl; rfl
theorem q_acmp_eq (hexec : p.tables.exec = Jvm.exec) (hb : c.code = cc) (hW : Wd D cA z ad N S P M H) (k : Nat) (r1 r2 : Option Nat) (h1 : ∀ x, r1 = some x → x < N k) (h2 : ∀ x, r2 = some x → x < N k) {off : Int} {tgt : Nat} (hdg : decode cc pc = .ok (.if_acmp .eq off, 3)) (ht : (pc : Int) + off = (tgt : Int))
    (kt : r1 = r2 → W p l e R s m args below meth c H locs cells slots Q (F0 m tgt ls rest)) (kf : ¬ r1 = r2 → W p l e R s m args below meth c H locs cells slots Q (F0 m (pc + 3) ls rest)) : W p l e R s m args below meth c H locs cells slots Q (F0 m pc ls (va_rf (r2.map (ad k)) :: va_rf (r1.map (ad k)) :: rest)) :=
  lv_acmp_eq hexec hb hdg ht (fun h => kt ((q_map_inj hW h1 h2).mp h)) (fun h => kf (fun h' => h ((q_map_inj hW h1 h2).mpr h')))
theorem q_acmp_ne (hexec : p.tables.exec = Jvm.exec) (hb : c.code = cc) (hW : Wd D cA z ad N S P M H) (k : Nat) (r1 r2 : Option Nat) (h1 : ∀ x, r1 = some x → x < N k) (h2 : ∀ x, r2 = some x → x < N k) {off : Int} {tgt : Nat} (hdg : decode cc pc = .ok (.if_acmp .ne off, 3)) (ht : (pc : Int) + off = (tgt : Int))
    (kt : ¬ r1 = r2 → W p l e R s m args below meth c H locs cells slots Q (F0 m tgt ls rest)) (kf : r1 = r2 → W p l e R s m args below meth c H locs cells slots Q (F0 m (pc + 3) ls rest)) : W p l e R s m args below meth c H locs cells slots Q (F0 m pc ls (va_rf (r2.map (ad k)) :: va_rf (r1.map (ad k)) :: rest)) :=
  lv_acmp_ne hexec hb hdg ht (fun h => kt (fun h' => h ((q_map_inj hW h1 h2).mpr h'))) (fun h => kf ((q_map_inj hW h1 h2).mp h))
theorem q_some {k n : Nat} (h : k < n) : ∀ x, some k = some x → x < n := fun x hx => Option.some.inj hx ▸ h
theorem q_none {n : Nat} : ∀ x, (none : Option Nat) = some x → x < n := fun x hx => by cases hx
theorem q_fitR {n : String} (r : Option Nat) : fits (.object n) (va_rf r) = true := by cases r <;> rfl
theorem q_fitA {t : FieldType} (r : Option Nat) : fits (.array t) (va_rf r) = true := by cases r <;> rfl
theorem q_narR {n : String} (r : Option Nat) : narrow (.object n) (va_rf r) = va_rf r := by cases r <;> rfl
theorem q_narA {t : FieldType} (r : Option Nat) : narrow (.array t) (va_rf r) = va_rf r := by cases r <;> rfl
theorem q_narZ {v : Int32} (h : v = 0 ∨ v = 1) : narrow .boolean (.int v) = .int v := by rcases h with rfl | rfl <;> decide
theorem q_fitZ {v : Int32} (h : v = 0 ∨ v = 1) : fits .boolean (.int v) = true := by rcases h with rfl | rfl <;> decide
end ROWS

theorem sw_ne {x k : Int32} {n : Int} (h : ¬ x = k) (hk : k.toInt = n) : x.toInt ≠ n := fun e => h (Int32.toInt_inj.mp (e.trans hk.symm))
theorem mapad {ad ad' : Nat → Nat → Nat} {N : TN} (h : ∀ k i, i < N k → ad' k i = ad k i) {k : Nat} {r : Option Nat} (hr : ∀ x, r = some x → x < N k) : r.map (ad' k) = r.map (ad k) := by
  cases r with
  | none => rfl
  | some x => exact congrArg some (h k x (hr x rfl))
theorem upN_le {N : TN} {k0 : Nat} : ∀ k, N k ≤ upN N k0 k := fun k => by
  unfold upN
  split
  · rename_i h; rw [h]; omega
  · exact Nat.le_refl _
theorem upN_lt {N : TN} {k : Nat} : N k < upN N k k := by simp [upN]
theorem upN_of {N : TN} {k k' i' : Nat} (h : i' < upN N k k') (hn : ¬(k' = k ∧ i' = N k)) : i' < N k' := by
  unfold upN at h
  split at h
  · rename_i e
    subst e
    have : i' ≠ N k' := fun e => hn ⟨rfl, e⟩
    omega
  · exact h
theorem clr_ne {S : TS} {k n c i : Nat} (h : ¬(c / 100 = k ∧ i = n)) : clr S k n c i = S c i := if_neg h
theorem clrP_ne {P : TP} {k n c i : Nat} (h : ¬(c / 100 = k ∧ i = n)) : clrP P k n c i = P c i := if_neg h
theorem clr_eq {S : TS} {k n c : Nat} (h : c / 100 = k) : clr S k n c n = 0 := if_pos ⟨h, rfl⟩
theorem clrP_eq {P : TP} {k n c : Nat} (h : c / 100 = k) : clrP P k n c n = (fun _ => none) := if_pos ⟨h, rfl⟩
theorem clr_c {S : TS} {k n c : Nat} (h : ¬ c / 100 = k) : clr S k n c = S c := funext fun i => clr_ne fun q => h q.1
theorem clrP_c {P : TP} {k n c : Nat} (h : ¬ c / 100 = k) : clrP P k n c = P c := funext fun i => clrP_ne fun q => h q.1
set_option maxRecDepth 100000 in
theorem EE_ad {cA : Nat → ClassId} {ad ad' : Nat → Nat → Nat} {N : TN} {S : TS} {P : TP} {M : TS} (h : ∀ k i, i < N k → ad' k i = ad k i) (hV : Vd N P) (hF : ∀ k ∈ Fx, N k = 1) (k i : Nat) : EE cA ad' S P M k i = EE cA ad S P M k i := by
  have fx : ∀ k ∈ Fx, ad' k 0 = ad k 0 := fun k hk => h k 0 (by rw [hF k hk]; exact Nat.one_pos)
  match k with
  | 0 => rw [EE_0, EE_0, mapad (k := 4) h (hV 0 i 0)]
  | 1 => rw [EE_1, EE_1, mapad (k := 3) h (hV 100 i 0)]
  | 2 => rw [EE_2, EE_2, mapad (k := 3) h (hV 201 i 0), mapad (k := 4) h (hV 207 i 0)]
  | 3 => rw [EE_3, EE_3, mapad (k := 14) h (hV 307 i 0)]
  | 4 => rw [EE_4, EE_4, mapad (k := 2) h (hV 401 i 0), mapad (k := 4) h (hV 415 i 0)]
  | 5 => rw [EE_5, EE_5, fx 7 (by decide), fx 8 (by decide), fx 9 (by decide), fx 10 (by decide), fx 11 (by decide), fx 12 (by decide), fx 13 (by decide)]
  | 6 => rw [EE_6, EE_6, fx 20 (by decide), fx 21 (by decide), fx 22 (by decide), fx 23 (by decide), fx 24 (by decide), fx 25 (by decide), fx 26 (by decide), fx 27 (by decide), fx 28 (by decide), fx 29 (by decide), fx 30 (by decide), fx 31 (by decide), fx 32 (by decide), fx 33 (by decide), fx 34 (by decide), fx 35 (by decide), fx 36 (by decide), fx 37 (by decide), fx 38 (by decide), fx 39 (by decide), fx 46 (by decide)]
  | 7 => rw [EE_7, EE_7, show (fun j => (P 700 0 j).map (ad' 3)) = (fun j => (P 700 0 j).map (ad 3)) from funext fun j => mapad h (hV 700 0 j)]
  | 8 => rw [EE_8, EE_8, show (fun j => (P 800 0 j).map (ad' 1)) = (fun j => (P 800 0 j).map (ad 1)) from funext fun j => mapad h (hV 800 0 j)]
  | 9 => rw [EE_9, EE_9, show (fun j => (P 900 0 j).map (ad' 2)) = (fun j => (P 900 0 j).map (ad 2)) from funext fun j => mapad h (hV 900 0 j)]
  | 10 => rw [EE_10, EE_10, show (fun j => (P 1000 0 j).map (ad' 4)) = (fun j => (P 1000 0 j).map (ad 4)) from funext fun j => mapad h (hV 1000 0 j)]
  | 11 => rfl
  | 12 => rfl
  | 13 => rfl
  | 14 => rw [EE_14, EE_14, show (fun j => (P 1400 i j).map (ad' 4)) = (fun j => (P 1400 i j).map (ad 4)) from funext fun j => mapad h (hV 1400 i j)]
  | k + 15 => rfl
section NEWROWS
variable {p : Program} {l : Launch} {e : Env} {R : Room} {s : State} {m : MethodId} {args : Array Value} {below : List Frame} {meth : Method} {c : Code} {H : Heap} {locs : List Loc} {cells slots : Nat} {Q : State → Prop} {cc : ByteArray} {pc : Nat} {ls : Array Slot} {rest : List Value} {D : va_G} {cA : Nat → ClassId} {z : Nat} {ad : Nat → Nat → Nat} {N : TN} {S S' : TS} {P P' : TP} {M M' : TS}
theorem Wd.grow {H1 : Heap} {ad' : Nat → Nat → Nat} (hW : Wd D cA z ad N S P M H) {k : Nat} (hk5 : k < 5 ∨ k = 14) (had : ad' = fun k' i' => if k' = k ∧ i' = N k then H.size else ad k' i') (hz1 : H1.size = H.size + 1) (o1 : ∀ q, q < H.size → H1[q]? = H[q]?) (hcell : va_at D vwCl (H.size, EE cA ad' S' P' M k (N k)) H1) (hSk : ∀ c i, ¬(c / 100 = k ∧ i = N k) → S' c i = S c i) (hPk : ∀ c i, ¬(c / 100 = k ∧ i = N k) → P' c i = P c i) (hPn : ∀ c j, c / 100 = k → P' c (N k) j = none) : Wd D cA z ad' (upN N k) S' P' M H1 ∧ (∀ k' i', i' < N k' → ad' k' i' = ad k' i') ∧ ad' k (N k) = H.size := by
  have hold : ∀ k' i', i' < N k' → ad' k' i' = ad k' i' := fun k' i' h => by rw [had]; exact if_neg (by rintro ⟨rfl, rfl⟩; omega)
  have hnew : ad' k (N k) = H.size := by rw [had]; exact if_pos ⟨rfl, rfl⟩
  have hlt : ∀ k' i', i' < N k' → ad k' i' < H.size := fun k' i' h => (hW.1 k' i' h).lt
  have hEE : ∀ k' i', i' < N k' → EE cA ad' S' P' M k' i' = EE cA ad S P M k' i' := by
    intro k' i' hi'
    refine Eq.trans (EE_ext (S := S) (P := P) (M := M) (fun c hc => ⟨fun _ => hSk c i' ?_, fun a b => funext fun i => hSk c i ?_⟩) (fun c hc => ⟨fun _ => hPk c i' ?_, fun a b => funext fun i => hPk c i ?_⟩) (fun _ _ => rfl)) (EE_ad hold hW.2.2.2.1 hW.2.2.2.2 k' i')
    · rintro ⟨e1, e2⟩; rw [hc] at e1; subst e1; omega
    · rintro ⟨e1, e2⟩; omega
    · rintro ⟨e1, e2⟩; rw [hc] at e1; subst e1; omega
    · rintro ⟨e1, e2⟩; omega
  refine ⟨⟨fun k' i' hi' => ?_, fun k1 i1 k2 i2 h1 h2 e => ?_, fun k' i' hi' => ?_, fun c i j x hx => ?_, fun k' hk' => ?_⟩, hold, hnew⟩
  · by_cases h : k' = k ∧ i' = N k
    · obtain ⟨rfl, rfl⟩ := h
      rw [hnew]; exact hcell
    · have hi := upN_of hi' h
      rw [hold k' i' hi, hEE k' i' hi]
      exact (hW.1 k' i' hi).kept (o1 _ (hlt k' i' hi))
  · by_cases g1 : k1 = k ∧ i1 = N k <;> by_cases g2 : k2 = k ∧ i2 = N k
    · exact ⟨g1.1.trans g2.1.symm, g1.2.trans g2.2.symm⟩
    · have hi := upN_of h2 g2
      have := hlt k2 i2 hi
      rw [g1.1, g1.2, hnew, hold k2 i2 hi] at e
      omega
    · have hi := upN_of h1 g1
      have := hlt k1 i1 hi
      rw [g2.1, g2.2, hnew, hold k1 i1 hi] at e
      omega
    · have hi1 := upN_of h1 g1
      have hi2 := upN_of h2 g2
      rw [hold k1 i1 hi1, hold k2 i2 hi2] at e
      exact hW.2.1 k1 i1 k2 i2 hi1 hi2 e
  · by_cases h : k' = k ∧ i' = N k
    · rw [h.1, h.2, hnew]
      have h5 : 0 < N 5 := hW.fx 5 rfl
      exact Nat.le_trans (hW.2.2.1 5 0 h5) (Nat.le_of_lt (hlt 5 0 h5))
    · have hi := upN_of hi' h
      rw [hold k' i' hi]; exact hW.2.2.1 k' i' hi
  · by_cases h : c / 100 = k ∧ i = N k
    · rw [h.2, hPn c j h.1] at hx; cases hx
    · rw [hPk c i h] at hx
      exact Nat.lt_of_lt_of_le (hW.2.2.2.1 c i j x hx) (upN_le _)
  · have hne : k' ≠ k := by
      rintro rfl
      rcases hk5 with h | rfl
      · simp [Fx] at hk'; omega
      · simp [Fx] at hk'
    show (if k' = k then N k + 1 else N k') = 1
    rw [if_neg hne]; exact hW.2.2.2.2 k' hk'
theorem r_new (hexec : p.tables.exec = Jvm.exec) (hb : c.code = cc) {own C : String} {T : u_T} {Nf k index : Nat} {Ts : List Cond} (hts : ∀ w ∈ Ts, w.before args s = true) (hin : ∀ w ∈ u_ws C T Nf, w ∈ Ts) (ty : Nat → FieldType) (hty : ∀ k, k < Nf → parseFieldDescriptor (T k).2.2.1 = some (ty k)) (hown : s.vm.findClass own = some m.cls) (hcl : (Cond.classLink own index C).before args s = true) (hinst : (Cond.instantiable C Nf).before args s = true) (hini : (Cond.initialized C).before args s = true) (hK : va_K D vwCl (tysW cA) s) (hW : Wd D cA z ad N S P M H) (hS : va_S (fun q => z ≤ q) s.heap H locs) (hc : vwCl[k]? = some (C, T, Nf)) (hk5 : k < 5) {fs : List Value} (hfs : ∀ j, j < Nf → defaultValue (ty j) = vp_V fs j) (hE : ∀ ad' : Nat → Nat → Nat, EE cA ad' (clr S k (N k)) (clrP P k (N k)) M k (N k) = .inr (k, fs)) {N' : TN} (eN : N' = upN N k) (eS : S' = clr S k (N k)) (eP : P' = clrP P k (N k)) (hcells : cells + 1 ≤ R.cells) (hslots : slots + Nf ≤ R.slots) (hdg : decode cc pc = .ok (.new index, 3))
    (kk : ∀ (H1 : Heap) (ad' : Nat → Nat → Nat), (∀ k' i', i' < N k' → ad' k' i' = ad k' i') → (∀ k', N k' ≤ N' k') → Wd D cA z ad' N' S' P' M H1 → va_S (fun q => z ≤ q) s.heap H1 locs → W p l e R s m args below meth c H1 locs (cells + 1) (slots + Nf) Q (F0 m (pc + 3) ls (.ref (ad' k (N k)) :: rest))) : W p l e R s m args below meth c H locs cells slots Q (F0 m pc ls rest) := by
  subst eN; subst eS; subst eP
  have hKn := hK.1 k _ hc
  refine W.newcK hexec hb hown hcl hinst hini rfl hdg hcells hslots hKn.2.1 rfl fun H1 kC hkC e1 z1 o1 => ?_
  obtain ⟨ad', had⟩ : ∃ ad' : Nat → Nat → Nat, ad' = fun k' i' => if k' = k ∧ i' = N k then H.size else ad k' i' := ⟨_, rfl⟩
  obtain ⟨g1, g2, g3⟩ := hW.grow (H1 := H1) (Or.inl hk5) had z1 o1 (by rw [hE]; exact ⟨_, hc, (u_born ty hts hin hKn hkC e1 hty).to hfs⟩) (fun c i h => clr_ne h) (fun c i h => clrP_ne h) (fun c j h => by rw [clrP_eq h])
  have := kk H1 ad' g2 upN_le g1 ⟨Nat.le_trans hS.1 (by omega), fun x h1 h2 => (o1 x (Nat.lt_of_lt_of_le h1 hS.1)).trans (hS.2.1 x h1 h2), hS.2.2⟩
  rw [g3] at this
  exact this
theorem r_newA (hexec : p.tables.exec = Jvm.exec) (hb : c.code = cc) {own : String} {index : Nat} (hown : s.vm.findClass own = some m.cls) (hclink : (Cond.classLink own index RX4).before args s = true) (hN0 : NW s) (hK : va_K D vwCl (tysW cA) s) (hW : Wd D cA z ad N S P M H) (hS : va_S (fun q => z ≤ q) s.heap H locs) {n : Int32} (hn : ¬ n < 0) (hn24 : ¬ 24 < n.toNatClampNeg) {N' : TN} (eN : N' = upN N 14) (eS : S' = up S 1499 (N 14) n) (eP : P' = clrP P 14 (N 14)) (hcells : cells + 1 ≤ R.cells) (hslots : slots + 24 ≤ R.slots) (hdg : decode cc pc = .ok (.anewarray index, 3))
    (kk : ∀ (H1 : Heap) (ad' : Nat → Nat → Nat), (∀ k' i', i' < N k' → ad' k' i' = ad k' i') → (∀ k', N k' ≤ N' k') → Wd D cA z ad' N' S' P' M H1 → va_S (fun q => z ≤ q) s.heap H1 locs → W p l e R s m args below meth c H1 locs (cells + 1) (slots + 24) Q (F0 m (pc + 3) ls (.ref (ad' 14 (N 14)) :: rest))) : W p l e R s m args below meth c H locs cells slots Q (F0 m pc ls (.int n :: rest)) := by
  subst eN; subst eS; subst eP
  refine W.anew hexec hb hown hclink (va_AO.use hN0.2.2) rfl hdg rfl hn (by omega) hcells (by omega) fun cA' kA comp f1 f2 f3 f4 => ?_
  refine W.widen (k := cells + 1) (n := slots + 24) (Nat.le_refl _) (by omega) ?_
  generalize hH1 : H.push ({ cls := cA', slots := Array.replicate n.toNatClampNeg .null, vm := .none } : Cell) = H1
  have z1 : H1.size = H.size + 1 := by rw [← hH1, Array.size_push]
  have e1 : H1[H.size]? = some (arrV cA' n.toNatClampNeg (fun _ => .null)) := by rw [← hH1, Array.getElem?_push_size, ← arrV_new]
  have o1 : ∀ q : Nat, q < H.size → H1[q]? = H[q]? := fun q hq => by rw [← hH1, Array.getElem?_push, if_neg (Nat.ne_of_lt hq)]
  obtain ⟨kA5, comp5, -, -, -, f5⟩ := (hK.2 5 (cA 5, .object RX4) rfl).2
  have hcA : cA' = cA 5 := Option.some.inj (f1.symm.trans f5)
  obtain ⟨ad', had⟩ : ∃ ad' : Nat → Nat → Nat, ad' = fun k' i' => if k' = 14 ∧ i' = N 14 then H.size else ad k' i' := ⟨_, rfl⟩
  have hcell : va_at D vwCl (H.size, EE cA ad' (up S 1499 (N 14) n) (clrP P 14 (N 14)) M 14 (N 14)) H1 := by
    rw [EE_14]
    show H1[H.size]? = some (vp_cell _ _)
    rw [e1, vp_cell_q, up_v, hcA]
    congr 2
    funext j
    rw [clrP_eq (P := P) (k := 14) (n := N 14) (c := 1400) rfl]
    rfl
  obtain ⟨g1, g2, g3⟩ := hW.grow (H1 := H1) (S' := up S 1499 (N 14) n) (P' := clrP P 14 (N 14)) (Or.inr rfl) had z1 o1 hcell (fun c i h => by
    by_cases hi : i = N 14
    · exact congrFun (up_c (fun e => h ⟨by rw [e], hi⟩)) i
    · exact up_i hi) (fun c i h => clrP_ne h) (fun c j h => by rw [clrP_eq h])
  have := kk H1 ad' g2 upN_le g1 ⟨Nat.le_trans hS.1 (by omega), fun x h1 h2 => (o1 x (Nat.lt_of_lt_of_le h1 hS.1)).trans (hS.2.1 x h1 h2), hS.2.2⟩
  rw [g3] at this
  exact this
end NEWROWS
