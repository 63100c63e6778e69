def plc (k : Nat) : Nat := match k with
  | 5 => 0
  | 6 => 8
  | 7 => 1
  | 8 => 2
  | 9 => 3
  | 10 => 4
  | 11 => 5
  | 12 => 6
  | 13 => 7
  | 20 => 9
  | 21 => 10
  | 22 => 11
  | 23 => 12
  | 24 => 13
  | 25 => 14
  | 26 => 15
  | 27 => 16
  | 28 => 17
  | 29 => 18
  | 30 => 19
  | 31 => 20
  | 32 => 21
  | 33 => 22
  | 34 => 23
  | 35 => 24
  | 36 => 25
  | 37 => 26
  | 38 => 27
  | 39 => 28
  | 46 => 29
  | _ => 99
def ad0 (h5 h6 : Nat) (q r : Nat → Nat) (k _ : Nat) : Nat := match k with
  | 5 => h5
  | 6 => h6
  | 7 => q 0
  | 8 => q 1
  | 9 => q 2
  | 10 => q 3
  | 11 => q 4
  | 12 => q 5
  | 13 => q 6
  | 20 => r 0
  | 21 => r 1
  | 22 => r 2
  | 23 => r 3
  | 24 => r 4
  | 25 => r 5
  | 26 => r 6
  | 27 => r 7
  | 28 => r 8
  | 29 => r 9
  | 30 => r 10
  | 31 => r 11
  | 32 => r 12
  | 33 => r 13
  | 34 => r 14
  | 35 => r 15
  | 36 => r 16
  | 37 => r 17
  | 38 => r 18
  | 39 => r 19
  | 46 => r 20
  | _ => 0
def S0 : TS := fun _ _ => 0
def P0 : TP := fun _ _ _ => none
def N0 : TN := fun k => if Fx.contains k then 1 else 0
theorem plc_inj : ∀ k ∈ Fx, ∀ k' ∈ Fx, plc k = plc k' → k = k' := by decide +kernel
set_option maxHeartbeats 4000000 in
set_option maxRecDepth 100000 in
theorem start_at (cA : Nat → ClassId) (h5 h6 : Nat) (q r : Nat → Nat) : ∀ k ∈ Fx, (wI5 cA h5 q ++ wI6 cA h6 r)[plc k]? = some (ad0 h5 h6 q r k 0, EE cA (ad0 h5 h6 q r) S0 P0 S0 k 0) := by
  intro k hk
  simp only [Fx, List.mem_cons, List.not_mem_nil, or_false] at hk
  rcases hk with rfl | rfl | rfl | rfl | rfl | rfl | rfl | rfl | rfl | rfl | rfl | rfl | rfl | rfl | rfl | rfl | rfl | rfl | rfl | rfl | rfl | rfl | rfl | rfl | rfl | rfl | rfl | rfl | rfl | rfl
  · rfl
  · rfl
  · rfl
  · rfl
  · rfl
  · rfl
  · rfl
  · rfl
  · rfl
  · rfl
  · rfl
  · rfl
  · rfl
  · rfl
  · rfl
  · rfl
  · rfl
  · rfl
  · rfl
  · rfl
  · rfl
  · rfl
  · rfl
  · rfl
  · rfl
  · rfl
  · rfl
  · rfl
  · rfl
  · rfl
theorem start_W {D : va_G} {cA : Nat → ClassId} {z h5 h6 : Nat} {q r : Nat → Nat} {H : Heap} (hP : va_P D vwCl (wI5 cA h5 q ++ wI6 cA h6 r) H) (hD : va_D (fun a => z ≤ a) (wI5 cA h5 q ++ wI6 cA h6 r)) : Wd D cA z (ad0 h5 h6 q r) N0 S0 P0 S0 H := by
  have hin : ∀ k i, i < N0 k → k ∈ Fx ∧ i = 0 := by
    intro k i h
    unfold N0 at h
    split at h
    · rename_i hc
      exact ⟨by simpa using hc, by omega⟩
    · omega
  refine ⟨fun k i h => ?_, fun k i k' i' h h' e => ?_, fun k i h => ?_, (show Vd N0 P0 from fun c i j x hx => by simp [P0] at hx), fun k hk => ?_⟩
  · obtain ⟨hk, rfl⟩ := hin k i h
    exact hP _ _ (start_at cA h5 h6 q r k hk)
  · obtain ⟨hk, rfl⟩ := hin k i h
    obtain ⟨hk', rfl⟩ := hin k' i' h'
    exact ⟨plc_inj k hk k' hk' (hD.1 _ _ _ _ (start_at cA h5 h6 q r k hk) (start_at cA h5 h6 q r k' hk') e), rfl⟩
  · obtain ⟨hk, rfl⟩ := hin k i h
    exact hD.2 _ _ (start_at cA h5 h6 q r k hk)
  · unfold N0
    rw [if_pos (by simpa using hk)]
theorem nwF_in : ∀ q ∈ nwF, Cond.fieldLinkNest q.1 q.2.1 q.2.2.1 q.2.2.2.1 q.2.2.2.2.1 q.2.2.2.2.2 ∈ lw_tbl := by decide +kernel
theorem nwM_in : ∀ q ∈ nwM, Cond.methodLinkNest q.1 q.2.1 q.2.2.1 q.2.2.2 ∈ lw_tbl := by decide +kernel
set_option maxRecDepth 20000 in
theorem hiL_0 : ∀ w ∈ u_ws RX0 TX0 3, w ∈ lw_tbl := by decide +kernel
set_option maxRecDepth 20000 in
theorem hiL_1 : ∀ w ∈ u_ws RX1 TX1 3, w ∈ lw_tbl := by decide +kernel
set_option maxRecDepth 20000 in
theorem hiL_2 : ∀ w ∈ u_ws RX2 TX2 9, w ∈ lw_tbl := by decide +kernel
set_option maxRecDepth 20000 in
theorem hiL_3 : ∀ w ∈ u_ws RX3 TX3 8, w ∈ lw_tbl := by decide +kernel
set_option maxRecDepth 20000 in
theorem hiL_4 : ∀ w ∈ u_ws RX4 TX4 16, w ∈ lw_tbl := by decide +kernel
set_option maxRecDepth 20000 in
theorem hiL_5 : ∀ w ∈ u_ws RX5 TX5 12, w ∈ lw_tbl := by decide +kernel
set_option maxRecDepth 20000 in
theorem hiL_6 : ∀ w ∈ u_ws RX6 TX6 31, w ∈ lw_tbl := by decide +kernel
set_option maxHeartbeats 8000000 in
set_option maxRecDepth 100000 in
theorem start_of {p : Program} {e : Env} {s : State} {m : MethodId} {below : List Frame} {meth : Method} {c : Code} (l : Launch) {b L : Nat} {xs : Nat → Int32} (hL : L ≤ 2560) (C0 : lw_At p s m meth c b L xs) {Inv : Nat → TS → TP → TN → TS → Prop} (hB : BAll Inv) (hI : Inv 0 S0 P0 N0 S0) : W p l e room_1 s m #[Value.ref b] below meth c s.heap [] 0 0 (lw_Z below #[Value.ref b] s) (entryFrame m ([Value.ref b] : List Value).toArray 4) := by
  obtain ⟨hx, hb, hr, hml, hown, hts0, hX, hbl, hlk, hgv⟩ := id C0
  have hts : ∀ w ∈ wsL_law, w.before #[Value.ref b] s = true := fun w h => hts0 w (wsL_law_in w h)
  have hA : ∀ q : Nat, s.heap.size ≤ q → (fun q : Nat => s.heap.size ≤ q) q := fun _ h => h
  obtain ⟨c0, iS0, hKn0⟩ := u_known (C := RX0) (T := TX0) (N := 3) (n := 3) hts0 hiL_0 (hts0 (.instantiable RX0 3) (by decide +kernel))
  obtain ⟨c1, iS1, hKn1⟩ := u_known (C := RX1) (T := TX1) (N := 3) (n := 3) hts0 hiL_1 (hts0 (.instantiable RX1 3) (by decide +kernel))
  obtain ⟨c2, iS2, hKn2⟩ := u_known (C := RX2) (T := TX2) (N := 9) (n := 9) hts0 hiL_2 (hts0 (.instantiable RX2 9) (by decide +kernel))
  obtain ⟨c3, iS3, hKn3⟩ := u_known (C := RX3) (T := TX3) (N := 8) (n := 8) hts0 hiL_3 (hts0 (.instantiable RX3 8) (by decide +kernel))
  obtain ⟨c4, iS4, hKn4⟩ := u_known (C := RX4) (T := TX4) (N := 16) (n := 16) hts0 hiL_4 (hts0 (.instantiable RX4 16) (by decide +kernel))
  obtain ⟨c5, iS5, hKn5⟩ := u_known (C := RX5) (T := TX5) (N := 12) (n := 12) hts0 hiL_5 (hts0 (.instantiable RX5 12) (by decide +kernel))
  obtain ⟨c6, iS6, hKn6⟩ := u_known (C := RX6) (T := TX6) (N := 31) (n := 31) hts0 hiL_6 (hts0 (.instantiable RX6 31) (by decide +kernel))
  obtain ⟨D, hKc⟩ : ∃ D : va_G, ∀ (k : Nat) (q : vw_C), vwCl[k]? = some q → u_Kn s q.1 q.2.1 q.2.2 (D.1 k) (D.2 k) := by
    refine ⟨(fun k => if k = 0 then c0 else if k = 1 then c1 else if k = 2 then c2 else if k = 3 then c3 else if k = 4 then c4 else if k = 5 then c5 else c6, fun k => if k = 0 then iS0 else if k = 1 then iS1 else if k = 2 then iS2 else if k = 3 then iS3 else if k = 4 then iS4 else if k = 5 then iS5 else iS6), ?_⟩
    intro k q hq
    match k, hq with
    | 0, hq => cases hq; exact hKn0
    | 1, hq => cases hq; exact hKn1
    | 2, hq => cases hq; exact hKn2
    | 3, hq => cases hq; exact hKn3
    | 4, hq => cases hq; exact hKn4
    | 5, hq => cases hq; exact hKn5
    | 6, hq => cases hq; exact hKn6
    | k + 7, hq => simp [vwCl] at hq
  obtain ⟨a0, k0, p0, f0, g0, t0⟩ := Cond.arrayClass_spec (hts0 (.arrayClass .int) (by decide +kernel))
  obtain ⟨a1, k1, p1, f1, g1, t1⟩ := Cond.arrayClass_spec (hts0 (.arrayClass .boolean) (by decide +kernel))
  have hO1 : va_AO RX1 s := va_AO.of (hts0 (.arrayOver (.object RX1)) (by decide +kernel))
  obtain ⟨p2, a2, k2, e2, -, g2, t2, f2⟩ := Cond.arrayOver_spec hO1
  have hO2 : va_AO RX2 s := va_AO.of (hts0 (.arrayOver (.object RX2)) (by decide +kernel))
  obtain ⟨p3, a3, k3, e3, -, g3, t3, f3⟩ := Cond.arrayOver_spec hO2
  have hO3 : va_AO RX3 s := va_AO.of (hts0 (.arrayOver (.object RX3)) (by decide +kernel))
  obtain ⟨p4, a4, k4, e4, -, g4, t4, f4⟩ := Cond.arrayOver_spec hO3
  have hO4 : va_AO RX4 s := va_AO.of (hts0 (.arrayOver (.object RX4)) (by decide +kernel))
  obtain ⟨p5, a5, k5, e5, -, g5, t5, f5⟩ := Cond.arrayOver_spec hO4
  have hO : AO4 s := ⟨hO1, hO2, hO3, hO4⟩
  obtain ⟨cA, hcA⟩ : ∃ cA : Nat → ClassId, cA = fun k => if k = 0 then a0 else if k = 1 then a1 else if k = 2 then a2 else if k = 3 then a3 else if k = 4 then a4 else a5 := ⟨_, rfl⟩
  have hK : va_K D vwCl (tysW cA) s := by
    refine ⟨hKc, ?_⟩
    subst hcA
    intro k q hq
    match k, hq with
    | 0, hq => cases hq; exact ⟨fun n z => ⟨fun k h => (by cases h), k0, g0, p0, t0⟩, f0⟩
    | 1, hq => cases hq; exact ⟨fun n z => ⟨fun k h => (by cases h), k1, g1, p1, t1⟩, f1⟩
    | 2, hq => cases hq; exact ⟨fun n z => ⟨fun k h => (by cases h), k2, g2, p2, t2⟩, k2, p2, g2, t2, e2, f2⟩
    | 3, hq => cases hq; exact ⟨fun n z => ⟨fun k h => (by cases h), k3, g3, p3, t3⟩, k3, p3, g3, t3, e3, f3⟩
    | 4, hq => cases hq; exact ⟨fun n z => ⟨fun k h => (by cases h), k4, g4, p4, t4⟩, k4, p4, g4, t4, e4, f4⟩
    | 5, hq => cases hq; exact ⟨fun n z => ⟨fun k h => (by cases h), k5, g5, p5, t5⟩, k5, p5, g5, t5, e5, f5⟩
    | k + 6, hq => simp [tysW] at hq
  clear hcA
  have hN : NW s := ⟨fun q hq => va_Nw.of rfl (hts0 _ (nwF_in q hq)), fun q hq => va_Nw.of rfl (hts0 _ (nwM_in q hq)), hO4⟩
  have hS : va_S (fun q : Nat => s.heap.size ≤ q) s.heap s.heap [] := va_S.rf
  have hP : va_P D vwCl [] s.heap := fun k q h => by simp at h
  have hD : va_D (fun q : Nat => s.heap.size ≤ q) [] := ⟨fun i j p q h => by simp at h, fun k q h => by simp at h⟩
  have hl := lv_entry ([.ref b]) (n := 4) (Nat.le_of_ble_eq_true rfl)
  rw [lg_entry_eq]
  generalize (lg_sl ([.ref b]) ++ List.replicate (4 - (lg_sl ([.ref b])).length) Slot.unset).toArray = ls at hl ⊢
  have hl : lv_has ls 4 [(0, .ref b)] := hl
  refine va_new (ci := 5) (fs := [.null, .int 0, .null, .int 0, .null, .int 0, .null, .int 0, .null, .null, .null, .int 0]) (C := RX5) (T := TX5) (N := 12) hx hb hts0 hiL_5 tyX5 tyX5_ok hown (hts (.classLink RL 7 RX5) (by decide +kernel)) (hts (.instantiable RX5 12) (by decide +kernel)) (hts (.initialized RX5) (by decide +kernel)) hK hP hD hS hA rfl (fun j hj => by rcases (show j = 0 ∨ j = 1 ∨ j = 2 ∨ j = 3 ∨ j = 4 ∨ j = 5 ∨ j = 6 ∨ j = 7 ∨ j = 8 ∨ j = 9 ∨ j = 10 ∨ j = 11 by omega) with rfl | rfl | rfl | rfl | rfl | rfl | rfl | rfl | rfl | rfl | rfl | rfl <;> rfl) (Nat.le_of_ble_eq_true rfl) (Nat.le_of_ble_eq_true rfl) dL_law_0 (fun h5 H hP hD hS => ?_)
  have hz0 : s.heap.size ≤ h5 := hD.2 0 (h5, .inr (5, [.null, .int 0, .null, .int 0, .null, .int 0, .null, .int 0, .null, .null, .null, .int 0])) rfl
  have hz1 : s.heap.size ≤ H.size := hS.1
  have hP0 : va_P D vwCl (w05 h5) H := hP.sub [0] rfl
  refine lv_dup hx hb dL_law_3 rfl ?_
  refine va_callv (va_runI (As := []) (rest := [.ref h5]) ⟨hx, hb, hml, hown, hts⟩ (c5_init l D cA h5 H.size) (cwI 0 hts gL_law_X5_init rfl rfl rfl (hts (.initialized RX5) (by decide +kernel)) (hts (.methodLink RL 9 yX5_init) (by decide +kernel)) (hts (.instanceMethod yX5_init) (by decide +kernel)) rfl (by decide +kernel) ⟨(Nat.le_of_ble_eq_true rfl), (Nat.le_of_ble_eq_true rfl)⟩) ⟨fun a U g mk q => ⟨q.1, q.2.1, q.2.2.1, va_K.moved (u := U) (U := U.calling g mk a) (Vm.Alike.refl U.vm) q.2.2.2.1, q.2.2.2.2.moved (Vm.Alike.refl U.vm)⟩, fun U hU hW => ⟨rfl, by rw [hU], by rw [hU]; exact hP0, va_K.moved hW.alike hK, hO.moved hW.alike⟩⟩ rfl rfl hl.1 rfl (lv_room (Nat.le_of_ble_eq_true rfl)) dL_law_4 ⟨(Nat.le_of_ble_eq_true rfl), (Nat.le_of_ble_eq_true rfl)⟩) hS (fun q _ h => by rcases h with rfl | h; exact hz0; exact Nat.le_trans hz1 h) (fun q h => by rcases h with rfl | h; exact hz0; exact Nat.le_trans hz1 h) (fun u_1 t H1 locs ht hvm _ hB2 hz2 hk1 hS => ?_)
  obtain ⟨hP, hD⟩ := hB2
  rw [ht] at hP
  have hD := hD.weaken (B := fun q : Nat => s.heap.size ≤ q) (fun k x _ h => by have h2 : x.1 = h5 ∨ H.size ≤ x.1 := h; show s.heap.size ≤ x.1; omega)
  clear hP0 hz0 hz1 hk1 hz2 hvm ht t
  refine lv_astore_n (lv' := [(1, .ref h5), (0, .ref b)]) hx hb dL_law_7 rfl hl (by decide) rfl (fun ls hl => ?_)
  refine va_new (ci := 6) (fs := [.null, .null, .null, .null, .null, .null, .null, .null, .null, .null, .null, .null, .null, .null, .null, .null, .null, .null, .null, .null, .int 0, .int 0, .int 0, .int 0, .int 0, .int 0, .null, .int 0, .int 0, .int 0, .int 0]) (C := RX6) (T := TX6) (N := 31) hx hb hts0 hiL_6 tyX6 tyX6_ok hown (hts (.classLink RL 10 RX6) (by decide +kernel)) (hts (.instantiable RX6 31) (by decide +kernel)) (hts (.initialized RX6) (by decide +kernel)) hK hP hD hS hA rfl (fun j hj => by rcases (show j = 0 ∨ j = 1 ∨ j = 2 ∨ j = 3 ∨ j = 4 ∨ j = 5 ∨ j = 6 ∨ j = 7 ∨ j = 8 ∨ j = 9 ∨ j = 10 ∨ j = 11 ∨ j = 12 ∨ j = 13 ∨ j = 14 ∨ j = 15 ∨ j = 16 ∨ j = 17 ∨ j = 18 ∨ j = 19 ∨ j = 20 ∨ j = 21 ∨ j = 22 ∨ j = 23 ∨ j = 24 ∨ j = 25 ∨ j = 26 ∨ j = 27 ∨ j = 28 ∨ j = 29 ∨ j = 30 by omega) with rfl | rfl | rfl | rfl | rfl | rfl | rfl | rfl | rfl | rfl | rfl | rfl | rfl | rfl | rfl | rfl | rfl | rfl | rfl | rfl | rfl | rfl | rfl | rfl | rfl | rfl | rfl | rfl | rfl | rfl | rfl <;> rfl) (Nat.le_of_ble_eq_true rfl) (Nat.le_of_ble_eq_true rfl) dL_law_8 (fun h6 H hP hD hS => ?_)
  have hz0 : s.heap.size ≤ h6 := hD.2 8 (h6, .inr (6, [.null, .null, .null, .null, .null, .null, .null, .null, .null, .null, .null, .null, .null, .null, .null, .null, .null, .null, .null, .null, .int 0, .int 0, .int 0, .int 0, .int 0, .int 0, .null, .int 0, .int 0, .int 0, .int 0])) rfl
  have hz1 : s.heap.size ≤ H.size := hS.1
  have hP0 : va_P D vwCl (w06 h6) H := hP.sub [8] rfl
  refine lv_dup hx hb dL_law_11 rfl ?_
  refine va_callv (va_runI (As := []) (rest := [.ref h6]) ⟨hx, hb, hml, hown, hts⟩ (c6_init l D cA h6 H.size) (cwI 0 hts gL_law_X6_init rfl rfl rfl (hts (.initialized RX6) (by decide +kernel)) (hts (.methodLink RL 12 yX6_init) (by decide +kernel)) (hts (.instanceMethod yX6_init) (by decide +kernel)) rfl (by decide +kernel) ⟨(Nat.le_of_ble_eq_true rfl), (Nat.le_of_ble_eq_true rfl)⟩) ⟨fun a U g mk q => ⟨q.1, q.2.1, q.2.2.1, va_K.moved (u := U) (U := U.calling g mk a) (Vm.Alike.refl U.vm) q.2.2.2.1, q.2.2.2.2.moved (Vm.Alike.refl U.vm)⟩, fun U hU hW => ⟨rfl, by rw [hU], by rw [hU]; exact hP0, va_K.moved hW.alike hK, hO.moved hW.alike⟩⟩ rfl rfl hl.1 rfl (lv_room (Nat.le_of_ble_eq_true rfl)) dL_law_12 ⟨(Nat.le_of_ble_eq_true rfl), (Nat.le_of_ble_eq_true rfl)⟩) hS (fun q _ h => by rcases h with rfl | h; exact hz0; exact Nat.le_trans hz1 h) (fun q h => by rcases h with rfl | h; exact hz0; exact Nat.le_trans hz1 h) (fun u t H1 locs ht hvm _ hB2 hz2 hk1 hS => ?_)
  obtain ⟨hP1, hD1⟩ := hB2
  rw [ht] at hP1
  have hF : ∀ q, va_A (w06 h6) H.size q → s.heap.size ≤ q := by
    intro q h
    rcases h with ⟨k, e, h⟩ | h
    · have h1 := (List.getElem?_eq_some_iff.mp h).1
      have h2 : k = 0 := by simp at h1; omega
      subst h2; cases h; exact hz0
    · exact Nat.le_trans hz1 h
  obtain ⟨hP, hD⟩ := va_join (A0 := fun q : Nat => s.heap.size ≤ q) (wc := w06 h6) (wr := wI5 cA h5 u_1) (w1 := wI6 cA h6 u) hP hD [8] [0, 1, 2, 3, 4, 5, 6, 7] rfl rfl (by decide) (by decide) (fun q h1 h2 => hk1 q h1 (fun h => h2 (by rcases h with rfl | h; exact Or.inl ⟨0, _, rfl⟩; exact Or.inr h))) hF hP1 (hD1.weaken (fun k x _ h => by have h2 : x.1 = h6 ∨ H.size ≤ x.1 := h; show va_A (w06 h6) H.size x.1; rcases h2 with h2 | h2; rw [h2]; exact Or.inl ⟨0, _, rfl⟩; exact Or.inr h2))
  have hW := start_W hP hD
  refine lv_astore_n (lv' := [(2, .ref h6), (1, .ref h5), (0, .ref b)]) hx hb dL_law_15 rfl hl (by decide) rfl (fun ls hl => ?_)
  refine lv_iconst (v := 0) hx hb dL_law_16 (by decide) ?_
  refine lv_istore_n (lv' := [(3, .int 0), (2, .ref h6), (1, .ref h5), (0, .ref b)]) hx hb dL_law_17 rfl hl (by decide) rfl (fun ls hl => ?_)
  refine W.widen (k := 30 + 2 * 0) (n := 27063 + 32 * 0) (by decide) (by decide) ?_
  exact law_loop l hL hx hb hr hml hown hts hX hbl hlk hB hK hN (L + 1) 0 S0 P0 N0 S0 _ H1 _ ls (by omega) (by omega) hI hW hS (lv_sub hl [3, 2, 1, 0] rfl)
