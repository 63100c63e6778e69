-- 5 shipNumbered
abbrev rm5_shipNumbered : Room := { frames := 1, cells := 0, slots := 0, locals := 22 }
def f5_shipNumbered (S : TS) (P : TP) (a1 : Int32) : Option (Option Nat) :=
  (f5_within a1 (0 : Int32) ((S 501 0) - (1 : Int32))).bind fun (v1 : Int32) =>
  if v1 = 0 then
  (some none)
  else
  ((ix a1 12).bind fun (j3 : Nat) =>
  lt (P 700 0 j3) fun (r4 : Option Nat) =>
  some r4)
set_option maxRecDepth 20000 in
theorem hi5_shipNumbered_5 : ∀ w ∈ u_ws RX5 TX5 12, w ∈ wsX5_shipNumbered := by decide +kernel
set_option maxHeartbeats 4000000 in
set_option maxRecDepth 100000 in
theorem w5_shipNumbered {p : Program} {l : Launch} {e : Env} {s : State} {m : MethodId} {args : Array Value} {below : List Frame} {meth : Method} {c : Code} (C : MC p s m args meth c cX5_shipNumbered (some (.object "FerryTerminal$Ship")) 2 RX5 wsX5_shipNumbered) {D : va_G} {cA : Nat → ClassId} {z : Nat} {ad : Nat → Nat → Nat} {N : TN} (hK : va_K D vwCl (tysW cA) s) (hN : NW s) {S : TS} {P : TP} {M : TS} (a1 : Int32) {v : Option Nat} (hF : f5_shipNumbered S P a1 = some v)
    {H : Heap} {ls : Array Slot} (hW : Wd D cA z ad N S P M H) {locs : List Loc} (hS : va_S (fun q => z ≤ q) s.heap H locs) (hl : lv_has ls 2 [(0, .ref (ad 5 0)), (1, .int a1)]) : W p l e rm5_shipNumbered s m args below meth c H locs 0 0 (MQ below (Qq D cA z 3 v (ad, N, S, P, M)) args s 0 0 (fun q => z ≤ q)) (F0 m 0 ls []) := by
  obtain ⟨hx, hb, hr, hml, hown, hts, hlk⟩ := id C
  unfold f5_shipNumbered at hF
  refine lv_iload_n hx hb dX5_shipNumbered_0 rfl (lv_at hl 1 rfl) ?_
  refine lv_iconst (v := (0 : Int32)) hx hb dX5_shipNumbered_1 (by decide) ?_
  refine lv_aload_n hx hb dX5_shipNumbered_2 rfl (lv_at hl 0 rfl) ?_
  refine g5_1 hx hb hts hi5_shipNumbered_5 hown hK hW (hts (.fieldLink RX5 43 RX5 "shipCount" "I") (by decide +kernel)) dX5_shipNumbered_3 ?_
  refine lv_iconst (v := (1 : Int32)) hx hb dX5_shipNumbered_6 (by decide) ?_
  refine lv_isub hx hb dX5_shipNumbered_7 ?_
  replace hF := ob hF
  obtain ⟨v1, q2, hF⟩ := hF
  refine k_i (va_runS (As := [.int a1, .int (0 : Int32), .int ((S 501 0) - (1 : Int32))]) (rest := []) ⟨hx, hb, hml, hown, hts⟩ (c5_within l a1 (0 : Int32) ((S 501 0) - (1 : Int32)) q2) (va_cwS 3 hts gX5_shipNumbered_X5_within rfl rfl rfl (by decide +kernel) ⟨Nat.le_of_ble_eq_true rfl, Nat.le_of_ble_eq_true rfl⟩) (k_preS hW hK hN) rfl rfl hl.1 rfl (lv_room (Nat.le_of_ble_eq_true rfl)) dX5_shipNumbered_8 ⟨Nat.le_of_ble_eq_true rfl, Nat.le_of_ble_eq_true rfl⟩) hS ?_
  clear hW hS; intro H locs hW hS
  refine lv_if_eq (tgt := 23) hx hb dX5_shipNumbered_11 (by decide) (fun hc => ?_) (fun hc => ?_)
  · replace hF := it_t hF hc
    refine lv_null hx hb dX5_shipNumbered_23 ?_
    have hq1 := Option.some.inj hF
    subst hq1
    exact e_q (v := none) hx hb hr hlk hK hN hW hS q_none dX5_shipNumbered_24
  · replace hF := it_f hF hc
    refine lv_aload_n hx hb dX5_shipNumbered_14 rfl (lv_at hl 0 rfl) ?_
    refine g5_0 hx hb hts hi5_shipNumbered_5 hown hK hW (hts (.fieldLink RX5 11 RX5 "ships" "[LFerryTerminal$Ship;") (by decide +kernel)) dX5_shipNumbered_15 ?_
    refine lv_iload_n hx hb dX5_shipNumbered_18 rfl (lv_at hl 1 rfl) ?_
    replace hF := ob hF
    obtain ⟨j3, ej3, hF⟩ := hF
    replace hF := lt_ex hF
    obtain ⟨r4, er4, hF⟩ := hF
    have hr4 : ∀ y, r4 = some y → y < N 3 := hW.v er4
    refine l7 hx hb hK hW ej3 er4 dX5_shipNumbered_19 ?_
    refine lv_goto (tgt := 24) hx hb dX5_shipNumbered_20 (by decide) ?_
    have hq1 := Option.some.inj hF
    subst hq1
    exact e_q (v := r4) hx hb hr hlk hK hN hW hS hr4 dX5_shipNumbered_24

set_option maxHeartbeats 4000000 in
set_option maxRecDepth 100000 in
theorem c5_shipNumbered (l : Launch) {D : va_G} {cA : Nat → ClassId} {z : Nat} {ad : Nat → Nat → Nat} {N : TN} {S : TS} {P : TP} {M : TS} (a1 : Int32) {v : Option Nat} (hF : f5_shipNumbered S P a1 = some v) : Met l yX5_shipNumbered wsX5_shipNumbered rm5_shipNumbered (va_Pc [.ref (ad 5 0), .int a1] (Wl D cA z (ad, N, S, P, M))) (Qq D cA z 3 v (ad, N, S, P, M)) 0 0 (fun q => z ≤ q) := by
  refine Met.ofW (cc := cX5_shipNumbered) (maxL := 2) (ret := (some (.object "FerryTerminal$Ship"))) (by decide) rfl ?_
  intro p e s m args below meth c s₁ B hml hv
  obtain ⟨rfl, hW, hK, hN⟩ := hv
  have hl := lv_entry ([.ref (ad 5 0), .int a1]) (n := 2) (Nat.le_of_ble_eq_true rfl)
  rw [lg_entry_eq]
  generalize (lg_sl ([.ref (ad 5 0), .int a1]) ++ List.replicate (2 - (lg_sl ([.ref (ad 5 0), .int a1])).length) Slot.unset).toArray = ls at hl ⊢
  exact w5_shipNumbered ⟨B.exec, B.bytes, B.returns, hml, findClass_of_methodNamed B.named, atoms_spec (ws := wsX5_shipNumbered) B.pre, B.notSynchronized⟩ hK hN a1 hF hW va_S.rf hl

-- 5 at
abbrev rm5_at : Room := { frames := 2, cells := 0, slots := 0, locals := 44 }
def f5_at_23 (K : Option (Int32)) (S : TS) (P : TP) (c4 : Int32) : Nat → Option Nat → Option (Int32)
  | 0, _ => none
  | n + 1, y6 =>
    y6.elim (K)
    (fun (t6 : Nat) => (f5_within c4 (S 410 t6) (((S 410 t6) + (S 402 t6)) - (1 : Int32))).bind fun (v7 : Int32) =>
    if v7 = 0 then
    (lt (P 415 t6 0) fun (r9 : Option Nat) =>
    f5_at_23 K S P c4 n r9)
    else
    (some (S 400 t6)))

def f5_at (S : TS) (P : TP) (a1 : Int32) (a2 : Int32) (a3 : Int32) (a4 : Int32) : Option (Int32) :=
  (f5_shipNumbered S P a1).bind fun (r1 : Option Nat) =>
  r1.elim (some (-1 : Int32))
  (fun (t3 : Nat) => (f3_nearestBow S P t3 a2 a3).bind fun (r4 : Option Nat) =>
  f5_at_23 (some (-1 : Int32)) S P a4 FU r4)
set_option maxRecDepth 20000 in
theorem hi5_at_4 : ∀ w ∈ u_ws RX4 TX4 16, w ∈ wsX5_at := by decide +kernel
set_option maxHeartbeats 4000000 in
set_option maxRecDepth 100000 in
theorem w5_at_23 {p : Program} {l : Launch} {e : Env} {s : State} {m : MethodId} {args : Array Value} {below : List Frame} {meth : Method} {c : Code} (C : MC p s m args meth c cX5_at (some .int) 7 RX5 wsX5_at) {D : va_G} {cA : Nat → ClassId} {z : Nat} {ad : Nat → Nat → Nat} {N : TN} (hK : va_K D vwCl (tysW cA) s) (hN : NW s) {M : TS} {S : TS} {P : TP} (c4 : Int32) {v : Int32} {K : Option (Int32)}
    (hE : ∀ (H : Heap) (locs : List Loc) (ls : Array Slot), K = some v → Wd D cA z ad N S P M H → va_S (fun q => z ≤ q) s.heap H locs → lv_has ls 7 [] → W p l e rm5_at s m args below meth c H locs 0 0 (MQ below (Qi D cA z v (ad, N, S, P, M)) args s 0 0 (fun q => z ≤ q)) (F0 m 70 ls [])) :
    ∀ (n : Nat) (y6 : Option Nat) (H : Heap) (locs : List Loc) (ls : Array Slot), (∀ y, y6 = some y → y < N 4) → f5_at_23 K S P c4 n y6 = some v → Wd D cA z ad N S P M H → va_S (fun q => z ≤ q) s.heap H locs → lv_has ls 7 [(4, .int c4), (6, va_rf (y6.map (ad 4)))] → W p l e rm5_at s m args below meth c H locs 0 0 (MQ below (Qi D cA z v (ad, N, S, P, M)) args s 0 0 (fun q => z ≤ q)) (F0 m 23 ls []) := by
  obtain ⟨hx, hb, hr, hml, hown, hts, hlk⟩ := id C
  intro n
  induction n with
  | zero => intro y6 H locs ls hy6 hF; cases hF
  | succ n ih =>
    intro y6 H locs ls hy6 hF hW hS hl
    rw [f5_at_23] at hF
    refine q_aload hx hb dX5_at_23 (lv_at hl 1 rfl) ?_
    refine q_ifnull (tgt := 70) hx hb dX5_at_25 (by decide) (fun hc => ?_) (fun t6 hc => ?_)
    · subst hc
      replace hF := el_n hF
      replace hl : lv_has ls 7 [(4, .int c4), (6, .null)] := hl
      exact hE _ _ _ hF hW hS (lv_sub hl [] rfl)
    · subst hc
      replace hF := el_s hF
      have ht6 := hy6 t6 rfl
      replace hl : lv_has ls 7 [(4, .int c4), (6, .ref (ad 4 t6))] := hl
      refine lv_iload hx hb dX5_at_28 (lv_at hl 0 rfl) ?_
      refine lv_aload hx hb dX5_at_30 (lv_at hl 1 rfl) ?_
      refine gn4_10 hx hb hts hi5_at_4 hown hK hW ht6 (nf_33 hN) dX5_at_32 ?_
      refine lv_aload hx hb dX5_at_35 (lv_at hl 1 rfl) ?_
      refine gn4_10 hx hb hts hi5_at_4 hown hK hW ht6 (nf_33 hN) dX5_at_37 ?_
      refine lv_aload hx hb dX5_at_40 (lv_at hl 1 rfl) ?_
      refine gn4_2 hx hb hts hi5_at_4 hown hK hW ht6 (nf_24 hN) dX5_at_42 ?_
      refine lv_iadd hx hb dX5_at_45 ?_
      refine lv_iconst (v := (1 : Int32)) hx hb dX5_at_46 (by decide) ?_
      refine lv_isub hx hb dX5_at_47 ?_
      replace hF := ob hF
      obtain ⟨v7, q8, hF⟩ := hF
      refine k_i (va_runS (As := [.int c4, .int (S 410 t6), .int (((S 410 t6) + (S 402 t6)) - (1 : Int32))]) (rest := []) ⟨hx, hb, hml, hown, hts⟩ (c5_within l c4 (S 410 t6) (((S 410 t6) + (S 402 t6)) - (1 : Int32)) q8) (va_cwS 3 hts gX5_at_X5_within rfl rfl rfl (by decide +kernel) ⟨Nat.le_of_ble_eq_true rfl, Nat.le_of_ble_eq_true rfl⟩) (k_preS hW hK hN) rfl rfl hl.1 rfl (lv_room (Nat.le_of_ble_eq_true rfl)) dX5_at_48 ⟨Nat.le_of_ble_eq_true rfl, Nat.le_of_ble_eq_true rfl⟩) hS ?_
      clear hW hS; intro H locs hW hS
      refine lv_if_eq (tgt := 60) hx hb dX5_at_51 (by decide) (fun hc => ?_) (fun hc => ?_)
      · replace hF := it_t hF hc
        refine lv_aload hx hb dX5_at_60 (lv_at hl 1 rfl) ?_
        replace hF := lt_ex hF
        obtain ⟨r9, er9, hF⟩ := hF
        have hr9 : ∀ y, r9 = some y → y < N 4 := hW.v er9
        refine gn4_15 hx hb hts hi5_at_4 hown hK hW ht6 er9 (nf_39 hN) dX5_at_62 ?_
        refine q_astore (lv' := [(6, va_rf (r9.map (ad 4))), (4, .int c4)]) hx hb dX5_at_65 hl (by decide) rfl ?_
        clear hl; intro ls hl
        refine lv_goto (tgt := 23) hx hb dX5_at_67 (by decide) ?_
        exact ih r9 _ _ _ hr9 hF hW hS (lv_sub hl [1, 0] rfl)
      · replace hF := it_f hF hc
        refine lv_aload hx hb dX5_at_54 (lv_at hl 1 rfl) ?_
        refine gn4_0 hx hb hts hi5_at_4 hown hK hW ht6 (nf_21 hN) dX5_at_56 ?_
        have hq1 := Option.some.inj hF
        subst hq1
        exact e_i hx hb hr hlk hK hN hW hS dX5_at_59

set_option maxHeartbeats 4000000 in
set_option maxRecDepth 100000 in
theorem w5_at {p : Program} {l : Launch} {e : Env} {s : State} {m : MethodId} {args : Array Value} {below : List Frame} {meth : Method} {c : Code} (C : MC p s m args meth c cX5_at (some .int) 7 RX5 wsX5_at) {D : va_G} {cA : Nat → ClassId} {z : Nat} {ad : Nat → Nat → Nat} {N : TN} (hK : va_K D vwCl (tysW cA) s) (hN : NW s) {S : TS} {P : TP} {M : TS} (a1 : Int32) (a2 : Int32) (a3 : Int32) (a4 : Int32) {v : Int32} (hF : f5_at S P a1 a2 a3 a4 = some v)
    {H : Heap} {ls : Array Slot} (hW : Wd D cA z ad N S P M H) {locs : List Loc} (hS : va_S (fun q => z ≤ q) s.heap H locs) (hl : lv_has ls 7 [(0, .ref (ad 5 0)), (1, .int a1), (2, .int a2), (3, .int a3), (4, .int a4)]) : W p l e rm5_at s m args below meth c H locs 0 0 (MQ below (Qi D cA z v (ad, N, S, P, M)) args s 0 0 (fun q => z ≤ q)) (F0 m 0 ls []) := by
  obtain ⟨hx, hb, hr, hml, hown, hts, hlk⟩ := id C
  unfold f5_at at hF
  refine lv_aload_n hx hb dX5_at_0 rfl (lv_at hl 0 rfl) ?_
  refine lv_iload_n hx hb dX5_at_1 rfl (lv_at hl 1 rfl) ?_
  replace hF := ob hF
  obtain ⟨r1, q2, hF⟩ := hF
  refine k_q (va_runV (As := [.int a1]) (rest := []) ⟨hx, hb, hml, hown, hts⟩ (c5_shipNumbered l a1 q2) (cwV 1 hts gX5_at_X5_shipNumbered rfl rfl rfl (by decide +kernel) ⟨Nat.le_of_ble_eq_true rfl, Nat.le_of_ble_eq_true rfl⟩) (k_preV hW hK hN (hW.fx 5 rfl) (EE_5 cA ad S P M 0) rfl) rfl rfl hl.1 rfl (lv_room (Nat.le_of_ble_eq_true rfl)) dX5_at_2 ⟨Nat.le_of_ble_eq_true rfl, Nat.le_of_ble_eq_true rfl⟩) hS (fun H locs hW hS hr1 => ?_)
  refine q_astore (lv' := [(5, va_rf (r1.map (ad 3))), (0, .ref (ad 5 0)), (1, .int a1), (2, .int a2), (3, .int a3), (4, .int a4)]) hx hb dX5_at_5 hl (by decide) rfl ?_
  clear hl; intro ls hl
  refine q_aload hx hb dX5_at_7 (lv_at hl 0 rfl) ?_
  refine q_ifnonnull (tgt := 14) hx hb dX5_at_9 (by decide) (fun t3 hc => ?_) (fun hc => ?_)
  · subst hc
    replace hF := el_s hF
    have ht3 := hr1 t3 rfl
    replace hl : lv_has ls 7 [(5, .ref (ad 3 t3)), (0, .ref (ad 5 0)), (1, .int a1), (2, .int a2), (3, .int a3), (4, .int a4)] := hl
    refine lv_aload hx hb dX5_at_14 (lv_at hl 0 rfl) ?_
    refine lv_iload_n hx hb dX5_at_16 rfl (lv_at hl 3 rfl) ?_
    refine lv_iload_n hx hb dX5_at_17 rfl (lv_at hl 4 rfl) ?_
    replace hF := ob hF
    obtain ⟨r4, q5, hF⟩ := hF
    refine k_q (va_runVN (C := RX3) (As := [.int a2, .int a3]) (rest := []) ⟨hx, hb, hml, hown, hts⟩ (c3_nearestBow l t3 a2 a3 ht3 q5) ⟨va_cnB 2 hts gX5_at_X3_nearestBow_n274 rfl rfl rfl (nm_10 hN) (hts (.initialized RX3) (by decide +kernel)) (by decide +kernel) ⟨Nat.le_of_ble_eq_true rfl, Nat.le_of_ble_eq_true rfl⟩, hts (.instanceMethod yX3_nearestBow) (by decide +kernel), hts (.selects RX3 yX3_nearestBow yX3_nearestBow) (by decide +kernel)⟩ (k_preV hW hK hN ht3 (EE_3 cA ad S P M t3) rfl) rfl rfl hl.1 rfl (lv_room (Nat.le_of_ble_eq_true rfl)) dX5_at_18 ⟨Nat.le_of_ble_eq_true rfl, Nat.le_of_ble_eq_true rfl⟩) hS (fun H locs hW hS hr4 => ?_)
    refine q_astore (lv' := [(6, va_rf (r4.map (ad 4))), (5, .ref (ad 3 t3)), (0, .ref (ad 5 0)), (1, .int a1), (2, .int a2), (3, .int a3), (4, .int a4)]) hx hb dX5_at_21 hl (by decide) rfl ?_
    clear hl; intro ls hl
    refine w5_at_23 C hK hN a4 (hE := ?_) FU r4 _ _ _ hr4 hF hW hS (lv_sub hl [6, 0] rfl)
    intro  H locs ls hF hW hS hl
    refine lv_iconst (v := (-1 : Int32)) hx hb dX5_at_70 (by decide) ?_
    have hq1 := Option.some.inj hF
    subst hq1
    exact e_i hx hb hr hlk hK hN hW hS dX5_at_71
  · subst hc
    replace hF := el_n hF
    replace hl : lv_has ls 7 [(5, .null), (0, .ref (ad 5 0)), (1, .int a1), (2, .int a2), (3, .int a3), (4, .int a4)] := hl
    refine lv_iconst (v := (-1 : Int32)) hx hb dX5_at_12 (by decide) ?_
    have hq1 := Option.some.inj hF
    subst hq1
    exact e_i hx hb hr hlk hK hN hW hS dX5_at_13

set_option maxHeartbeats 4000000 in
set_option maxRecDepth 100000 in
theorem c5_at (l : Launch) {D : va_G} {cA : Nat → ClassId} {z : Nat} {ad : Nat → Nat → Nat} {N : TN} {S : TS} {P : TP} {M : TS} (a1 : Int32) (a2 : Int32) (a3 : Int32) (a4 : Int32) {v : Int32} (hF : f5_at S P a1 a2 a3 a4 = some v) : Met l yX5_at wsX5_at rm5_at (va_Pc [.ref (ad 5 0), .int a1, .int a2, .int a3, .int a4] (Wl D cA z (ad, N, S, P, M))) (Qi D cA z v (ad, N, S, P, M)) 0 0 (fun q => z ≤ q) := by
  refine Met.ofW (cc := cX5_at) (maxL := 7) (ret := (some .int)) (by decide) rfl ?_
  intro p e s m args below meth c s₁ B hml hv
  obtain ⟨rfl, hW, hK, hN⟩ := hv
  have hl := lv_entry ([.ref (ad 5 0), .int a1, .int a2, .int a3, .int a4]) (n := 7) (Nat.le_of_ble_eq_true rfl)
  rw [lg_entry_eq]
  generalize (lg_sl ([.ref (ad 5 0), .int a1, .int a2, .int a3, .int a4]) ++ List.replicate (7 - (lg_sl ([.ref (ad 5 0), .int a1, .int a2, .int a3, .int a4])).length) Slot.unset).toArray = ls at hl ⊢
  exact w5_at ⟨B.exec, B.bytes, B.returns, hml, findClass_of_methodNamed B.named, atoms_spec (ws := wsX5_at) B.pre, B.notSynchronized⟩ hK hN a1 a2 a3 a4 hF hW va_S.rf hl

-- 5 overlap
abbrev rm5_overlap : Room := { frames := 2, cells := 0, slots := 0, locals := 44 }
def f5_overlap (S : TS) (P : TP) (a0 : Nat) (a1 : Nat) (a2 : Nat) : Option (Int32) :=
  (f0_number S P a0 a2 (4 : Int32)).bind fun (v1 : Int32) =>
  if v1 = (3 : Int32) then
  ((f0_number S P a0 a2 (6 : Int32)).bind fun (v3 : Int32) =>
  (f0_number S P a0 a1 (6 : Int32)).bind fun (v5 : Int32) =>
  if v3 = v5 then
  ((f0_number S P a0 a2 (7 : Int32)).bind fun (v7 : Int32) =>
  (f0_number S P a0 a1 (7 : Int32)).bind fun (v9 : Int32) =>
  if v7 = v9 then
  ((f0_number S P a0 a1 (8 : Int32)).bind fun (v11 : Int32) =>
  (f0_number S P a0 a2 (8 : Int32)).bind fun (v13 : Int32) =>
  if 0 ≤ (lg_cmp ((v13).toInt64) (((v11).toInt64) + ((S 402 a1).toInt64))) then
  (some (0 : Int32))
  else
  (if 0 ≤ (lg_cmp ((v11).toInt64) (((v13).toInt64) + ((S 402 a2).toInt64))) then
  (some (0 : Int32))
  else
  (some (1 : Int32))))
  else
  (some (0 : Int32)))
  else
  (some (0 : Int32)))
  else
  (some (0 : Int32))
set_option maxRecDepth 20000 in
theorem hi5_overlap_4 : ∀ w ∈ u_ws RX4 TX4 16, w ∈ wsX5_overlap := by decide +kernel
set_option maxHeartbeats 4000000 in
set_option maxRecDepth 100000 in
theorem w5_overlap {p : Program} {l : Launch} {e : Env} {s : State} {m : MethodId} {args : Array Value} {below : List Frame} {meth : Method} {c : Code} (C : MC p s m args meth c cX5_overlap (some .boolean) 7 RX5 wsX5_overlap) {D : va_G} {cA : Nat → ClassId} {z : Nat} {ad : Nat → Nat → Nat} {N : TN} (hK : va_K D vwCl (tysW cA) s) (hN : NW s) {S : TS} {P : TP} {M : TS} (a0 : Nat) (a1 : Nat) (a2 : Nat) (ha0 : a0 < N 0) (ha1 : a1 < N 4) (ha2 : a2 < N 4) {v : Int32} (hF : f5_overlap S P a0 a1 a2 = some v)
    {H : Heap} {ls : Array Slot} (hW : Wd D cA z ad N S P M H) {locs : List Loc} (hS : va_S (fun q => z ≤ q) s.heap H locs) (hl : lv_has ls 7 [(0, .ref (ad 0 a0)), (1, .ref (ad 4 a1)), (2, .ref (ad 4 a2))]) : W p l e rm5_overlap s m args below meth c H locs 0 0 (MQ below (Qi D cA z v (ad, N, S, P, M)) args s 0 0 (fun q => z ≤ q)) (F0 m 0 ls []) := by
  obtain ⟨hx, hb, hr, hml, hown, hts, hlk⟩ := id C
  unfold f5_overlap at hF
  refine lv_aload_n hx hb dX5_overlap_0 rfl (lv_at hl 0 rfl) ?_
  refine lv_aload_n hx hb dX5_overlap_1 rfl (lv_at hl 2 rfl) ?_
  refine lv_iconst (v := (4 : Int32)) hx hb dX5_overlap_2 (by decide) ?_
  replace hF := ob hF
  obtain ⟨v1, q2, hF⟩ := hF
  refine k_i (va_runVN (C := RX0) (As := [.ref (ad 4 a2), .int (4 : Int32)]) (rest := []) ⟨hx, hb, hml, hown, hts⟩ (c0_number l a0 a2 (4 : Int32) ha0 ha2 q2) ⟨va_cnB 2 hts gX5_overlap_X0_number_n324 rfl rfl rfl (nm_16 hN) (hts (.initialized RX0) (by decide +kernel)) (by decide +kernel) ⟨Nat.le_of_ble_eq_true rfl, Nat.le_of_ble_eq_true rfl⟩, hts (.instanceMethod yX0_number) (by decide +kernel), hts (.selects RX0 yX0_number yX0_number) (by decide +kernel)⟩ (k_preV hW hK hN ha0 (EE_0 cA ad S P M a0) rfl) rfl rfl hl.1 rfl (lv_room (Nat.le_of_ble_eq_true rfl)) dX5_overlap_3 ⟨Nat.le_of_ble_eq_true rfl, Nat.le_of_ble_eq_true rfl⟩) hS ?_
  clear hW hS; intro H locs hW hS
  refine lv_iconst (v := (3 : Int32)) hx hb dX5_overlap_6 (by decide) ?_
  refine lv_icmp_ne (tgt := 44) hx hb dX5_overlap_7 (by decide) (fun hc => ?_) (fun hc => ?_)
  · replace hF := it_f hF hc
    refine lv_iconst (v := (0 : Int32)) hx hb dX5_overlap_44 (by decide) ?_
    have hq1 := Option.some.inj hF
    subst hq1
    exact e_z hx hb hr hlk hK hN hW hS (by decide) dX5_overlap_45
  · replace hF := it_t hF hc
    refine lv_aload_n hx hb dX5_overlap_10 rfl (lv_at hl 0 rfl) ?_
    refine lv_aload_n hx hb dX5_overlap_11 rfl (lv_at hl 2 rfl) ?_
    refine lv_bipush (v := (6 : Int32)) hx hb dX5_overlap_12 (by decide) ?_
    replace hF := ob hF
    obtain ⟨v3, q4, hF⟩ := hF
    refine k_i (va_runVN (C := RX0) (As := [.ref (ad 4 a2), .int (6 : Int32)]) (rest := []) ⟨hx, hb, hml, hown, hts⟩ (c0_number l a0 a2 (6 : Int32) ha0 ha2 q4) ⟨va_cnB 2 hts gX5_overlap_X0_number_n324 rfl rfl rfl (nm_16 hN) (hts (.initialized RX0) (by decide +kernel)) (by decide +kernel) ⟨Nat.le_of_ble_eq_true rfl, Nat.le_of_ble_eq_true rfl⟩, hts (.instanceMethod yX0_number) (by decide +kernel), hts (.selects RX0 yX0_number yX0_number) (by decide +kernel)⟩ (k_preV hW hK hN ha0 (EE_0 cA ad S P M a0) rfl) rfl rfl hl.1 rfl (lv_room (Nat.le_of_ble_eq_true rfl)) dX5_overlap_14 ⟨Nat.le_of_ble_eq_true rfl, Nat.le_of_ble_eq_true rfl⟩) hS ?_
    clear hW hS; intro H locs hW hS
    refine lv_aload_n hx hb dX5_overlap_17 rfl (lv_at hl 0 rfl) ?_
    refine lv_aload_n hx hb dX5_overlap_18 rfl (lv_at hl 1 rfl) ?_
    refine lv_bipush (v := (6 : Int32)) hx hb dX5_overlap_19 (by decide) ?_
    replace hF := ob hF
    obtain ⟨v5, q6, hF⟩ := hF
    refine k_i (va_runVN (C := RX0) (As := [.ref (ad 4 a1), .int (6 : Int32)]) (rest := [.int v3]) ⟨hx, hb, hml, hown, hts⟩ (c0_number l a0 a1 (6 : Int32) ha0 ha1 q6) ⟨va_cnB 2 hts gX5_overlap_X0_number_n324 rfl rfl rfl (nm_16 hN) (hts (.initialized RX0) (by decide +kernel)) (by decide +kernel) ⟨Nat.le_of_ble_eq_true rfl, Nat.le_of_ble_eq_true rfl⟩, hts (.instanceMethod yX0_number) (by decide +kernel), hts (.selects RX0 yX0_number yX0_number) (by decide +kernel)⟩ (k_preV hW hK hN ha0 (EE_0 cA ad S P M a0) rfl) rfl rfl hl.1 rfl (lv_room (Nat.le_of_ble_eq_true rfl)) dX5_overlap_21 ⟨Nat.le_of_ble_eq_true rfl, Nat.le_of_ble_eq_true rfl⟩) hS ?_
    clear hW hS; intro H locs hW hS
    refine lv_icmp_ne (tgt := 44) hx hb dX5_overlap_24 (by decide) (fun hc => ?_) (fun hc => ?_)
    · replace hF := it_f hF hc
      refine lv_iconst (v := (0 : Int32)) hx hb dX5_overlap_44 (by decide) ?_
      have hq1 := Option.some.inj hF
      subst hq1
      exact e_z hx hb hr hlk hK hN hW hS (by decide) dX5_overlap_45
    · replace hF := it_t hF hc
      refine lv_aload_n hx hb dX5_overlap_27 rfl (lv_at hl 0 rfl) ?_
      refine lv_aload_n hx hb dX5_overlap_28 rfl (lv_at hl 2 rfl) ?_
      refine lv_bipush (v := (7 : Int32)) hx hb dX5_overlap_29 (by decide) ?_
      replace hF := ob hF
      obtain ⟨v7, q8, hF⟩ := hF
      refine k_i (va_runVN (C := RX0) (As := [.ref (ad 4 a2), .int (7 : Int32)]) (rest := []) ⟨hx, hb, hml, hown, hts⟩ (c0_number l a0 a2 (7 : Int32) ha0 ha2 q8) ⟨va_cnB 2 hts gX5_overlap_X0_number_n324 rfl rfl rfl (nm_16 hN) (hts (.initialized RX0) (by decide +kernel)) (by decide +kernel) ⟨Nat.le_of_ble_eq_true rfl, Nat.le_of_ble_eq_true rfl⟩, hts (.instanceMethod yX0_number) (by decide +kernel), hts (.selects RX0 yX0_number yX0_number) (by decide +kernel)⟩ (k_preV hW hK hN ha0 (EE_0 cA ad S P M a0) rfl) rfl rfl hl.1 rfl (lv_room (Nat.le_of_ble_eq_true rfl)) dX5_overlap_31 ⟨Nat.le_of_ble_eq_true rfl, Nat.le_of_ble_eq_true rfl⟩) hS ?_
      clear hW hS; intro H locs hW hS
      refine lv_aload_n hx hb dX5_overlap_34 rfl (lv_at hl 0 rfl) ?_
      refine lv_aload_n hx hb dX5_overlap_35 rfl (lv_at hl 1 rfl) ?_
      refine lv_bipush (v := (7 : Int32)) hx hb dX5_overlap_36 (by decide) ?_
      replace hF := ob hF
      obtain ⟨v9, q10, hF⟩ := hF
      refine k_i (va_runVN (C := RX0) (As := [.ref (ad 4 a1), .int (7 : Int32)]) (rest := [.int v7]) ⟨hx, hb, hml, hown, hts⟩ (c0_number l a0 a1 (7 : Int32) ha0 ha1 q10) ⟨va_cnB 2 hts gX5_overlap_X0_number_n324 rfl rfl rfl (nm_16 hN) (hts (.initialized RX0) (by decide +kernel)) (by decide +kernel) ⟨Nat.le_of_ble_eq_true rfl, Nat.le_of_ble_eq_true rfl⟩, hts (.instanceMethod yX0_number) (by decide +kernel), hts (.selects RX0 yX0_number yX0_number) (by decide +kernel)⟩ (k_preV hW hK hN ha0 (EE_0 cA ad S P M a0) rfl) rfl rfl hl.1 rfl (lv_room (Nat.le_of_ble_eq_true rfl)) dX5_overlap_38 ⟨Nat.le_of_ble_eq_true rfl, Nat.le_of_ble_eq_true rfl⟩) hS ?_
      clear hW hS; intro H locs hW hS
      refine lv_icmp_eq (tgt := 46) hx hb dX5_overlap_41 (by decide) (fun hc => ?_) (fun hc => ?_)
      · replace hF := it_t hF hc
        refine lv_aload_n hx hb dX5_overlap_46 rfl (lv_at hl 0 rfl) ?_
        refine lv_aload_n hx hb dX5_overlap_47 rfl (lv_at hl 1 rfl) ?_
        refine lv_bipush (v := (8 : Int32)) hx hb dX5_overlap_48 (by decide) ?_
        replace hF := ob hF
        obtain ⟨v11, q12, hF⟩ := hF
        refine k_i (va_runVN (C := RX0) (As := [.ref (ad 4 a1), .int (8 : Int32)]) (rest := []) ⟨hx, hb, hml, hown, hts⟩ (c0_number l a0 a1 (8 : Int32) ha0 ha1 q12) ⟨va_cnB 2 hts gX5_overlap_X0_number_n324 rfl rfl rfl (nm_16 hN) (hts (.initialized RX0) (by decide +kernel)) (by decide +kernel) ⟨Nat.le_of_ble_eq_true rfl, Nat.le_of_ble_eq_true rfl⟩, hts (.instanceMethod yX0_number) (by decide +kernel), hts (.selects RX0 yX0_number yX0_number) (by decide +kernel)⟩ (k_preV hW hK hN ha0 (EE_0 cA ad S P M a0) rfl) rfl rfl hl.1 rfl (lv_room (Nat.le_of_ble_eq_true rfl)) dX5_overlap_50 ⟨Nat.le_of_ble_eq_true rfl, Nat.le_of_ble_eq_true rfl⟩) hS ?_
        clear hW hS; intro H locs hW hS
        refine lv_i2l hx hb dX5_overlap_53 rfl ?_
        refine lv_lstore_n (lv' := [(3, .long ((v11).toInt64)), (0, .ref (ad 0 a0)), (1, .ref (ad 4 a1)), (2, .ref (ad 4 a2))]) hx hb dX5_overlap_54 rfl hl (by decide) rfl ?_
        clear hl; intro ls hl
        refine lv_aload_n hx hb dX5_overlap_55 rfl (lv_at hl 1 rfl) ?_
        refine lv_aload_n hx hb dX5_overlap_56 rfl (lv_at hl 3 rfl) ?_
        refine lv_bipush (v := (8 : Int32)) hx hb dX5_overlap_57 (by decide) ?_
        replace hF := ob hF
        obtain ⟨v13, q14, hF⟩ := hF
        refine k_i (va_runVN (C := RX0) (As := [.ref (ad 4 a2), .int (8 : Int32)]) (rest := []) ⟨hx, hb, hml, hown, hts⟩ (c0_number l a0 a2 (8 : Int32) ha0 ha2 q14) ⟨va_cnB 2 hts gX5_overlap_X0_number_n324 rfl rfl rfl (nm_16 hN) (hts (.initialized RX0) (by decide +kernel)) (by decide +kernel) ⟨Nat.le_of_ble_eq_true rfl, Nat.le_of_ble_eq_true rfl⟩, hts (.instanceMethod yX0_number) (by decide +kernel), hts (.selects RX0 yX0_number yX0_number) (by decide +kernel)⟩ (k_preV hW hK hN ha0 (EE_0 cA ad S P M a0) rfl) rfl rfl hl.1 rfl (lv_room (Nat.le_of_ble_eq_true rfl)) dX5_overlap_59 ⟨Nat.le_of_ble_eq_true rfl, Nat.le_of_ble_eq_true rfl⟩) hS ?_
        clear hW hS; intro H locs hW hS
        refine lv_i2l hx hb dX5_overlap_62 rfl ?_
        refine lv_lstore (lv' := [(5, .long ((v13).toInt64)), (3, .long ((v11).toInt64)), (0, .ref (ad 0 a0)), (1, .ref (ad 4 a1)), (2, .ref (ad 4 a2))]) hx hb dX5_overlap_63 hl (by decide) rfl ?_
        clear hl; intro ls hl
        refine lv_lload hx hb dX5_overlap_65 (lv_at hl 0 rfl) ?_
        refine lv_lload_n hx hb dX5_overlap_67 rfl (lv_at hl 1 rfl) ?_
        refine lv_aload_n hx hb dX5_overlap_68 rfl (lv_at hl 3 rfl) ?_
        refine gn4_2 hx hb hts hi5_overlap_4 hown hK hW ha1 (nf_24 hN) dX5_overlap_69 ?_
        refine lv_i2l hx hb dX5_overlap_72 rfl ?_
        refine lv_ladd hx hb dX5_overlap_73 ?_
        refine W.lcmp hx hb dX5_overlap_74 ?_
        refine lv_if_ge (tgt := 95) hx hb dX5_overlap_75 (by decide) (fun hc => ?_) (fun hc => ?_)
        · replace hF := it_t hF hc
          refine lv_iconst (v := (0 : Int32)) hx hb dX5_overlap_95 (by decide) ?_
          have hq1 := Option.some.inj hF
          subst hq1
          exact e_z hx hb hr hlk hK hN hW hS (by decide) dX5_overlap_96
        · replace hF := it_f hF hc
          refine lv_lload_n hx hb dX5_overlap_78 rfl (lv_at hl 1 rfl) ?_
          refine lv_lload hx hb dX5_overlap_79 (lv_at hl 0 rfl) ?_
          refine lv_aload_n hx hb dX5_overlap_81 rfl (lv_at hl 4 rfl) ?_
          refine gn4_2 hx hb hts hi5_overlap_4 hown hK hW ha2 (nf_24 hN) dX5_overlap_82 ?_
          refine lv_i2l hx hb dX5_overlap_85 rfl ?_
          refine lv_ladd hx hb dX5_overlap_86 ?_
          refine W.lcmp hx hb dX5_overlap_87 ?_
          refine lv_if_ge (tgt := 95) hx hb dX5_overlap_88 (by decide) (fun hc => ?_) (fun hc => ?_)
          · replace hF := it_t hF hc
            refine lv_iconst (v := (0 : Int32)) hx hb dX5_overlap_95 (by decide) ?_
            have hq1 := Option.some.inj hF
            subst hq1
            exact e_z hx hb hr hlk hK hN hW hS (by decide) dX5_overlap_96
          · replace hF := it_f hF hc
            refine lv_iconst (v := (1 : Int32)) hx hb dX5_overlap_91 (by decide) ?_
            refine lv_goto (tgt := 96) hx hb dX5_overlap_92 (by decide) ?_
            have hq1 := Option.some.inj hF
            subst hq1
            exact e_z hx hb hr hlk hK hN hW hS (by decide) dX5_overlap_96
      · replace hF := it_f hF hc
        refine lv_iconst (v := (0 : Int32)) hx hb dX5_overlap_44 (by decide) ?_
        have hq1 := Option.some.inj hF
        subst hq1
        exact e_z hx hb hr hlk hK hN hW hS (by decide) dX5_overlap_45

set_option maxHeartbeats 4000000 in
set_option maxRecDepth 100000 in
theorem c5_overlap (l : Launch) {D : va_G} {cA : Nat → ClassId} {z : Nat} {ad : Nat → Nat → Nat} {N : TN} {S : TS} {P : TP} {M : TS} (a0 : Nat) (a1 : Nat) (a2 : Nat) (ha0 : a0 < N 0) (ha1 : a1 < N 4) (ha2 : a2 < N 4) {v : Int32} (hF : f5_overlap S P a0 a1 a2 = some v) : Met l yX5_overlap wsX5_overlap rm5_overlap (va_Pc [.ref (ad 0 a0), .ref (ad 4 a1), .ref (ad 4 a2)] (Wl D cA z (ad, N, S, P, M))) (Qi D cA z v (ad, N, S, P, M)) 0 0 (fun q => z ≤ q) := by
  refine Met.ofW (cc := cX5_overlap) (maxL := 7) (ret := (some .boolean)) (by decide) rfl ?_
  intro p e s m args below meth c s₁ B hml hv
  obtain ⟨rfl, hW, hK, hN⟩ := hv
  have hl := lv_entry ([.ref (ad 0 a0), .ref (ad 4 a1), .ref (ad 4 a2)]) (n := 7) (Nat.le_of_ble_eq_true rfl)
  rw [lg_entry_eq]
  generalize (lg_sl ([.ref (ad 0 a0), .ref (ad 4 a1), .ref (ad 4 a2)]) ++ List.replicate (7 - (lg_sl ([.ref (ad 0 a0), .ref (ad 4 a1), .ref (ad 4 a2)])).length) Slot.unset).toArray = ls at hl ⊢
  exact w5_overlap ⟨B.exec, B.bytes, B.returns, hml, findClass_of_methodNamed B.named, atoms_spec (ws := wsX5_overlap) B.pre, B.notSynchronized⟩ hK hN a0 a1 a2 ha0 ha1 ha2 hF hW va_S.rf hl

-- 5 placeAgrees
abbrev rm5_placeAgrees : Room := { frames := 3, cells := 0, slots := 0, locals := 70 }
def f5_placeAgrees_103 (K : Option (Int32)) (S : TS) (P : TP) (c1 : Nat) (c2 : Nat) : Nat → Int32 → Option (Int32)
  | 0, _ => none
  | n + 1, y7 =>
    if (S 507 0) ≤ y7 then
    (K)
    else
    ((ix y7 400).bind fun (j17 : Nat) =>
    lt (P 1000 0 j17) fun (r18 : Option Nat) =>
    if r18 = (some c2) then
    (f5_placeAgrees_103 K S P c1 c2 n (y7 + 1))
    else
    ((ix y7 400).bind fun (j19 : Nat) =>
    lt (P 1000 0 j19) fun (r20 : Option Nat) =>
    r20.bind fun (t21 : Nat) =>
    lt (P 401 t21 0) fun (r22 : Option Nat) =>
    lt (P 401 c2 0) fun (r23 : Option Nat) =>
    if r22 = r23 then
    ((ix y7 400).bind fun (j24 : Nat) =>
    lt (P 1000 0 j24) fun (r25 : Option Nat) =>
    r25.bind fun (t26 : Nat) =>
    (f5_overlap S P c1 c2 t26).bind fun (v27 : Int32) =>
    if v27 = 0 then
    (f5_placeAgrees_103 K S P c1 c2 n (y7 + 1))
    else
    (some (0 : Int32)))
    else
    (f5_placeAgrees_103 K S P c1 c2 n (y7 + 1))))

def f5_placeAgrees (S : TS) (P : TP) (a1 : Nat) (a2 : Nat) : Option (Int32) :=
  (f0_number S P a1 a2 (6 : Int32)).bind fun (v1 : Int32) =>
  (f0_number S P a1 a2 (7 : Int32)).bind fun (v3 : Int32) =>
  (f0_number S P a1 a2 (8 : Int32)).bind fun (v5 : Int32) =>
  (f0_number S P a1 a2 (4 : Int32)).bind fun (v7 : Int32) =>
  if v7 = (3 : Int32) then
  (lt (P 401 a2 0) fun (r9 : Option Nat) =>
  r9.bind fun (t10 : Nat) =>
  lt (P 201 t10 0) fun (r11 : Option Nat) =>
  r11.bind fun (t12 : Nat) =>
  (f3_hasLane S P t12 v1 v3).bind fun (v13 : Int32) =>
  if v13 = 0 then
  (some (0 : Int32))
  else
  ((f5_within v5 (0 : Int32) ((S 303 t12) - (S 402 a2))).bind fun (v15 : Int32) =>
  if v15 = 0 then
  (some (0 : Int32))
  else
  (f5_placeAgrees_103 (some (1 : Int32)) S P a1 a2 FU (0 : Int32))))
  else
  (if v1 = (-1 : Int32) then
  (if v3 = (-1 : Int32) then
  (if v5 = (-1 : Int32) then
  (some (1 : Int32))
  else
  (some (0 : Int32)))
  else
  (some (0 : Int32)))
  else
  (some (0 : Int32)))
set_option maxRecDepth 20000 in
theorem hi5_placeAgrees_2 : ∀ w ∈ u_ws RX2 TX2 9, w ∈ wsX5_placeAgrees := by decide +kernel
set_option maxRecDepth 20000 in
theorem hi5_placeAgrees_3 : ∀ w ∈ u_ws RX3 TX3 8, w ∈ wsX5_placeAgrees := by decide +kernel
set_option maxRecDepth 20000 in
theorem hi5_placeAgrees_4 : ∀ w ∈ u_ws RX4 TX4 16, w ∈ wsX5_placeAgrees := by decide +kernel
set_option maxRecDepth 20000 in
theorem hi5_placeAgrees_5 : ∀ w ∈ u_ws RX5 TX5 12, w ∈ wsX5_placeAgrees := by decide +kernel
set_option maxHeartbeats 4000000 in
set_option maxRecDepth 100000 in
theorem w5_placeAgrees_103 {p : Program} {l : Launch} {e : Env} {s : State} {m : MethodId} {args : Array Value} {below : List Frame} {meth : Method} {c : Code} (C : MC p s m args meth c cX5_placeAgrees (some .boolean) 8 RX5 wsX5_placeAgrees) {D : va_G} {cA : Nat → ClassId} {z : Nat} {ad : Nat → Nat → Nat} {N : TN} (hK : va_K D vwCl (tysW cA) s) (hN : NW s) {M : TS} {S : TS} {P : TP} (c1 : Nat) (c2 : Nat) (hc1 : c1 < N 0) (hc2 : c2 < N 4) {v : Int32} {K : Option (Int32)}
    (hE : ∀ (H : Heap) (locs : List Loc) (ls : Array Slot), K = some v → Wd D cA z ad N S P M H → va_S (fun q => z ≤ q) s.heap H locs → lv_has ls 8 [] → W p l e rm5_placeAgrees s m args below meth c H locs 0 0 (MQ below (Qi D cA z v (ad, N, S, P, M)) args s 0 0 (fun q => z ≤ q)) (F0 m 163 ls [])) :
    ∀ (n : Nat) (y7 : Int32) (H : Heap) (locs : List Loc) (ls : Array Slot), f5_placeAgrees_103 K S P c1 c2 n y7 = some v → Wd D cA z ad N S P M H → va_S (fun q => z ≤ q) s.heap H locs → lv_has ls 8 [(0, .ref (ad 5 0)), (1, .ref (ad 0 c1)), (2, .ref (ad 4 c2)), (7, .int y7)] → W p l e rm5_placeAgrees s m args below meth c H locs 0 0 (MQ below (Qi D cA z v (ad, N, S, P, M)) args s 0 0 (fun q => z ≤ q)) (F0 m 103 ls []) := by
  obtain ⟨hx, hb, hr, hml, hown, hts, hlk⟩ := id C
  intro n
  induction n with
  | zero => intro y7 H locs ls hF; cases hF
  | succ n ih =>
    intro y7 H locs ls hF hW hS hl
    rw [f5_placeAgrees_103] at hF
    refine lv_iload hx hb dX5_placeAgrees_103 (lv_at hl 3 rfl) ?_
    refine lv_aload_n hx hb dX5_placeAgrees_105 rfl (lv_at hl 0 rfl) ?_
    refine g5_7 hx hb hts hi5_placeAgrees_5 hown hK hW (hts (.fieldLink RX5 100 RX5 "ticketCount" "I") (by decide +kernel)) dX5_placeAgrees_106 ?_
    refine lv_icmp_ge (tgt := 163) hx hb dX5_placeAgrees_109 (by decide) (fun hc => ?_) (fun hc => ?_)
    · replace hF := it_t hF hc
      exact hE _ _ _ hF hW hS (lv_sub hl [] rfl)
    · replace hF := it_f hF hc
      refine lv_aload_n hx hb dX5_placeAgrees_112 rfl (lv_at hl 0 rfl) ?_
      refine g5_6 hx hb hts hi5_placeAgrees_5 hown hK hW (hts (.fieldLink RX5 29 RX5 "tickets" "[LFerryTerminal$Ticket;") (by decide +kernel)) dX5_placeAgrees_113 ?_
      refine lv_iload hx hb dX5_placeAgrees_116 (lv_at hl 3 rfl) ?_
      replace hF := ob hF
      obtain ⟨j17, ej17, hF⟩ := hF
      replace hF := lt_ex hF
      obtain ⟨r18, er18, hF⟩ := hF
      have hr18 : ∀ y, r18 = some y → y < N 4 := hW.v er18
      refine l10 hx hb hK hW ej17 er18 dX5_placeAgrees_118 ?_
      refine lv_aload_n hx hb dX5_placeAgrees_119 rfl (lv_at hl 2 rfl) ?_
      refine q_acmp_eq hx hb hW 4 r18 (some c2) hr18 (q_some hc2) (tgt := 157) dX5_placeAgrees_120 (by decide) (fun hc => ?_) (fun hc => ?_)
      · replace hF := it_t hF hc
        refine lv_iinc (v := y7 + 1) (lv' := [(7, .int (y7 + 1)), (0, .ref (ad 5 0)), (1, .ref (ad 0 c1)), (2, .ref (ad 4 c2))]) hx hb dX5_placeAgrees_157 hl (k := 3) rfl rfl (by decide) rfl ?_
        clear hl; intro ls hl
        refine lv_goto (tgt := 103) hx hb dX5_placeAgrees_160 (by decide) ?_
        exact ih (y7 + 1) _ _ _ hF hW hS (lv_sub hl [1, 2, 3, 0] rfl)
      · replace hF := it_f hF hc
        refine lv_aload_n hx hb dX5_placeAgrees_123 rfl (lv_at hl 0 rfl) ?_
        refine g5_6 hx hb hts hi5_placeAgrees_5 hown hK hW (hts (.fieldLink RX5 29 RX5 "tickets" "[LFerryTerminal$Ticket;") (by decide +kernel)) dX5_placeAgrees_124 ?_
        refine lv_iload hx hb dX5_placeAgrees_127 (lv_at hl 3 rfl) ?_
        replace hF := ob hF
        obtain ⟨j19, ej19, hF⟩ := hF
        replace hF := lt_ex hF
        obtain ⟨r20, er20, hF⟩ := hF
        have hr20 : ∀ y, r20 = some y → y < N 4 := hW.v er20
        refine l10 hx hb hK hW ej19 er20 dX5_placeAgrees_129 ?_
        replace hF := ob hF
        obtain ⟨t21, et21, hF⟩ := hF
        subst et21
        have ht21 := hr20 t21 rfl
        replace hF := lt_ex hF
        obtain ⟨r22, er22, hF⟩ := hF
        have hr22 : ∀ y, r22 = some y → y < N 2 := hW.v er22
        refine gn4_1 hx hb hts hi5_placeAgrees_4 hown hK hW ht21 er22 (nf_22 hN) dX5_placeAgrees_130 ?_
        refine lv_aload_n hx hb dX5_placeAgrees_133 rfl (lv_at hl 2 rfl) ?_
        replace hF := lt_ex hF
        obtain ⟨r23, er23, hF⟩ := hF
        have hr23 : ∀ y, r23 = some y → y < N 2 := hW.v er23
        refine gn4_1 hx hb hts hi5_placeAgrees_4 hown hK hW hc2 er23 (nf_22 hN) dX5_placeAgrees_134 ?_
        refine q_acmp_ne hx hb hW 2 r22 r23 hr22 hr23 (tgt := 157) dX5_placeAgrees_137 (by decide) (fun hc => ?_) (fun hc => ?_)
        · replace hF := it_f hF hc
          refine lv_iinc (v := y7 + 1) (lv' := [(7, .int (y7 + 1)), (0, .ref (ad 5 0)), (1, .ref (ad 0 c1)), (2, .ref (ad 4 c2))]) hx hb dX5_placeAgrees_157 hl (k := 3) rfl rfl (by decide) rfl ?_
          clear hl; intro ls hl
          refine lv_goto (tgt := 103) hx hb dX5_placeAgrees_160 (by decide) ?_
          exact ih (y7 + 1) _ _ _ hF hW hS (lv_sub hl [1, 2, 3, 0] rfl)
        · replace hF := it_t hF hc
          refine lv_aload_n hx hb dX5_placeAgrees_140 rfl (lv_at hl 1 rfl) ?_
          refine lv_aload_n hx hb dX5_placeAgrees_141 rfl (lv_at hl 2 rfl) ?_
          refine lv_aload_n hx hb dX5_placeAgrees_142 rfl (lv_at hl 0 rfl) ?_
          refine g5_6 hx hb hts hi5_placeAgrees_5 hown hK hW (hts (.fieldLink RX5 29 RX5 "tickets" "[LFerryTerminal$Ticket;") (by decide +kernel)) dX5_placeAgrees_143 ?_
          refine lv_iload hx hb dX5_placeAgrees_146 (lv_at hl 3 rfl) ?_
          replace hF := ob hF
          obtain ⟨j24, ej24, hF⟩ := hF
          replace hF := lt_ex hF
          obtain ⟨r25, er25, hF⟩ := hF
          have hr25 : ∀ y, r25 = some y → y < N 4 := hW.v er25
          refine l10 hx hb hK hW ej24 er25 dX5_placeAgrees_148 ?_
          replace hF := ob hF
          obtain ⟨t26, et26, hF⟩ := hF
          subst et26
          have ht26 := hr25 t26 rfl
          replace hF := ob hF
          obtain ⟨v27, q28, hF⟩ := hF
          refine k_i (va_runS (As := [.ref (ad 0 c1), .ref (ad 4 c2), .ref (ad 4 t26)]) (rest := []) ⟨hx, hb, hml, hown, hts⟩ (c5_overlap l c1 c2 t26 hc1 hc2 ht26 q28) (va_cwS 3 hts gX5_placeAgrees_X5_overlap rfl rfl rfl (by decide +kernel) ⟨Nat.le_of_ble_eq_true rfl, Nat.le_of_ble_eq_true rfl⟩) (k_preS hW hK hN) rfl rfl hl.1 rfl (lv_room (Nat.le_of_ble_eq_true rfl)) dX5_placeAgrees_149 ⟨Nat.le_of_ble_eq_true rfl, Nat.le_of_ble_eq_true rfl⟩) hS ?_
          clear hW hS; intro H locs hW hS
          refine lv_if_eq (tgt := 157) hx hb dX5_placeAgrees_152 (by decide) (fun hc => ?_) (fun hc => ?_)
          · replace hF := it_t hF hc
            refine lv_iinc (v := y7 + 1) (lv' := [(7, .int (y7 + 1)), (0, .ref (ad 5 0)), (1, .ref (ad 0 c1)), (2, .ref (ad 4 c2))]) hx hb dX5_placeAgrees_157 hl (k := 3) rfl rfl (by decide) rfl ?_
            clear hl; intro ls hl
            refine lv_goto (tgt := 103) hx hb dX5_placeAgrees_160 (by decide) ?_
            exact ih (y7 + 1) _ _ _ hF hW hS (lv_sub hl [1, 2, 3, 0] rfl)
          · replace hF := it_f hF hc
            refine lv_iconst (v := (0 : Int32)) hx hb dX5_placeAgrees_155 (by decide) ?_
            have hq1 := Option.some.inj hF
            subst hq1
            exact e_z hx hb hr hlk hK hN hW hS (by decide) dX5_placeAgrees_156

set_option maxHeartbeats 4000000 in
set_option maxRecDepth 100000 in
theorem w5_placeAgrees {p : Program} {l : Launch} {e : Env} {s : State} {m : MethodId} {args : Array Value} {below : List Frame} {meth : Method} {c : Code} (C : MC p s m args meth c cX5_placeAgrees (some .boolean) 8 RX5 wsX5_placeAgrees) {D : va_G} {cA : Nat → ClassId} {z : Nat} {ad : Nat → Nat → Nat} {N : TN} (hK : va_K D vwCl (tysW cA) s) (hN : NW s) {S : TS} {P : TP} {M : TS} (a1 : Nat) (a2 : Nat) (ha1 : a1 < N 0) (ha2 : a2 < N 4) {v : Int32} (hF : f5_placeAgrees S P a1 a2 = some v)
    {H : Heap} {ls : Array Slot} (hW : Wd D cA z ad N S P M H) {locs : List Loc} (hS : va_S (fun q => z ≤ q) s.heap H locs) (hl : lv_has ls 8 [(0, .ref (ad 5 0)), (1, .ref (ad 0 a1)), (2, .ref (ad 4 a2))]) : W p l e rm5_placeAgrees s m args below meth c H locs 0 0 (MQ below (Qi D cA z v (ad, N, S, P, M)) args s 0 0 (fun q => z ≤ q)) (F0 m 0 ls []) := by
  obtain ⟨hx, hb, hr, hml, hown, hts, hlk⟩ := id C
  unfold f5_placeAgrees at hF
  refine lv_aload_n hx hb dX5_placeAgrees_0 rfl (lv_at hl 1 rfl) ?_
  refine lv_aload_n hx hb dX5_placeAgrees_1 rfl (lv_at hl 2 rfl) ?_
  refine lv_bipush (v := (6 : Int32)) hx hb dX5_placeAgrees_2 (by decide) ?_
  replace hF := ob hF
  obtain ⟨v1, q2, hF⟩ := hF
  refine k_i (va_runVN (C := RX0) (As := [.ref (ad 4 a2), .int (6 : Int32)]) (rest := []) ⟨hx, hb, hml, hown, hts⟩ (c0_number l a1 a2 (6 : Int32) ha1 ha2 q2) ⟨va_cnB 2 hts gX5_placeAgrees_X0_number_n324 rfl rfl rfl (nm_16 hN) (hts (.initialized RX0) (by decide +kernel)) (by decide +kernel) ⟨Nat.le_of_ble_eq_true rfl, Nat.le_of_ble_eq_true rfl⟩, hts (.instanceMethod yX0_number) (by decide +kernel), hts (.selects RX0 yX0_number yX0_number) (by decide +kernel)⟩ (k_preV hW hK hN ha1 (EE_0 cA ad S P M a1) rfl) rfl rfl hl.1 rfl (lv_room (Nat.le_of_ble_eq_true rfl)) dX5_placeAgrees_4 ⟨Nat.le_of_ble_eq_true rfl, Nat.le_of_ble_eq_true rfl⟩) hS ?_
  clear hW hS; intro H locs hW hS
  refine lv_istore_n (lv' := [(3, .int v1), (0, .ref (ad 5 0)), (1, .ref (ad 0 a1)), (2, .ref (ad 4 a2))]) hx hb dX5_placeAgrees_7 rfl hl (by decide) rfl ?_
  clear hl; intro ls hl
  refine lv_aload_n hx hb dX5_placeAgrees_8 rfl (lv_at hl 2 rfl) ?_
  refine lv_aload_n hx hb dX5_placeAgrees_9 rfl (lv_at hl 3 rfl) ?_
  refine lv_bipush (v := (7 : Int32)) hx hb dX5_placeAgrees_10 (by decide) ?_
  replace hF := ob hF
  obtain ⟨v3, q4, hF⟩ := hF
  refine k_i (va_runVN (C := RX0) (As := [.ref (ad 4 a2), .int (7 : Int32)]) (rest := []) ⟨hx, hb, hml, hown, hts⟩ (c0_number l a1 a2 (7 : Int32) ha1 ha2 q4) ⟨va_cnB 2 hts gX5_placeAgrees_X0_number_n324 rfl rfl rfl (nm_16 hN) (hts (.initialized RX0) (by decide +kernel)) (by decide +kernel) ⟨Nat.le_of_ble_eq_true rfl, Nat.le_of_ble_eq_true rfl⟩, hts (.instanceMethod yX0_number) (by decide +kernel), hts (.selects RX0 yX0_number yX0_number) (by decide +kernel)⟩ (k_preV hW hK hN ha1 (EE_0 cA ad S P M a1) rfl) rfl rfl hl.1 rfl (lv_room (Nat.le_of_ble_eq_true rfl)) dX5_placeAgrees_12 ⟨Nat.le_of_ble_eq_true rfl, Nat.le_of_ble_eq_true rfl⟩) hS ?_
  clear hW hS; intro H locs hW hS
  refine lv_istore (lv' := [(4, .int v3), (3, .int v1), (0, .ref (ad 5 0)), (1, .ref (ad 0 a1)), (2, .ref (ad 4 a2))]) hx hb dX5_placeAgrees_15 hl (by decide) rfl ?_
  clear hl; intro ls hl
  refine lv_aload_n hx hb dX5_placeAgrees_17 rfl (lv_at hl 3 rfl) ?_
  refine lv_aload_n hx hb dX5_placeAgrees_18 rfl (lv_at hl 4 rfl) ?_
  refine lv_bipush (v := (8 : Int32)) hx hb dX5_placeAgrees_19 (by decide) ?_
  replace hF := ob hF
  obtain ⟨v5, q6, hF⟩ := hF
  refine k_i (va_runVN (C := RX0) (As := [.ref (ad 4 a2), .int (8 : Int32)]) (rest := []) ⟨hx, hb, hml, hown, hts⟩ (c0_number l a1 a2 (8 : Int32) ha1 ha2 q6) ⟨va_cnB 2 hts gX5_placeAgrees_X0_number_n324 rfl rfl rfl (nm_16 hN) (hts (.initialized RX0) (by decide +kernel)) (by decide +kernel) ⟨Nat.le_of_ble_eq_true rfl, Nat.le_of_ble_eq_true rfl⟩, hts (.instanceMethod yX0_number) (by decide +kernel), hts (.selects RX0 yX0_number yX0_number) (by decide +kernel)⟩ (k_preV hW hK hN ha1 (EE_0 cA ad S P M a1) rfl) rfl rfl hl.1 rfl (lv_room (Nat.le_of_ble_eq_true rfl)) dX5_placeAgrees_21 ⟨Nat.le_of_ble_eq_true rfl, Nat.le_of_ble_eq_true rfl⟩) hS ?_
  clear hW hS; intro H locs hW hS
  refine lv_istore (lv' := [(5, .int v5), (4, .int v3), (3, .int v1), (0, .ref (ad 5 0)), (1, .ref (ad 0 a1)), (2, .ref (ad 4 a2))]) hx hb dX5_placeAgrees_24 hl (by decide) rfl ?_
  clear hl; intro ls hl
  refine lv_aload_n hx hb dX5_placeAgrees_26 rfl (lv_at hl 4 rfl) ?_
  refine lv_aload_n hx hb dX5_placeAgrees_27 rfl (lv_at hl 5 rfl) ?_
  refine lv_iconst (v := (4 : Int32)) hx hb dX5_placeAgrees_28 (by decide) ?_
  replace hF := ob hF
  obtain ⟨v7, q8, hF⟩ := hF
  refine k_i (va_runVN (C := RX0) (As := [.ref (ad 4 a2), .int (4 : Int32)]) (rest := []) ⟨hx, hb, hml, hown, hts⟩ (c0_number l a1 a2 (4 : Int32) ha1 ha2 q8) ⟨va_cnB 2 hts gX5_placeAgrees_X0_number_n324 rfl rfl rfl (nm_16 hN) (hts (.initialized RX0) (by decide +kernel)) (by decide +kernel) ⟨Nat.le_of_ble_eq_true rfl, Nat.le_of_ble_eq_true rfl⟩, hts (.instanceMethod yX0_number) (by decide +kernel), hts (.selects RX0 yX0_number yX0_number) (by decide +kernel)⟩ (k_preV hW hK hN ha1 (EE_0 cA ad S P M a1) rfl) rfl rfl hl.1 rfl (lv_room (Nat.le_of_ble_eq_true rfl)) dX5_placeAgrees_29 ⟨Nat.le_of_ble_eq_true rfl, Nat.le_of_ble_eq_true rfl⟩) hS ?_
  clear hW hS; intro H locs hW hS
  refine lv_iconst (v := (3 : Int32)) hx hb dX5_placeAgrees_32 (by decide) ?_
  refine lv_icmp_eq (tgt := 59) hx hb dX5_placeAgrees_33 (by decide) (fun hc => ?_) (fun hc => ?_)
  · replace hF := it_t hF hc
    refine lv_aload_n hx hb dX5_placeAgrees_59 rfl (lv_at hl 5 rfl) ?_
    replace hF := lt_ex hF
    obtain ⟨r9, er9, hF⟩ := hF
    have hr9 : ∀ y, r9 = some y → y < N 2 := hW.v er9
    refine gn4_1 hx hb hts hi5_placeAgrees_4 hown hK hW ha2 er9 (nf_22 hN) dX5_placeAgrees_60 ?_
    replace hF := ob hF
    obtain ⟨t10, et10, hF⟩ := hF
    subst et10
    have ht10 := hr9 t10 rfl
    replace hF := lt_ex hF
    obtain ⟨r11, er11, hF⟩ := hF
    have hr11 : ∀ y, r11 = some y → y < N 3 := hW.v er11
    refine gn2_1 hx hb hts hi5_placeAgrees_2 hown hK hW ht10 er11 (nf_12 hN) dX5_placeAgrees_63 ?_
    refine q_astore (lv' := [(6, va_rf (r11.map (ad 3))), (5, .int v5), (4, .int v3), (3, .int v1), (0, .ref (ad 5 0)), (1, .ref (ad 0 a1)), (2, .ref (ad 4 a2))]) hx hb dX5_placeAgrees_66 hl (by decide) rfl ?_
    clear hl; intro ls hl
    refine q_aload hx hb dX5_placeAgrees_68 (lv_at hl 0 rfl) ?_
    refine lv_iload_n hx hb dX5_placeAgrees_70 rfl (lv_at hl 3 rfl) ?_
    refine lv_iload hx hb dX5_placeAgrees_71 (lv_at hl 2 rfl) ?_
    replace hF := ob hF
    obtain ⟨t12, et12, hF⟩ := hF
    subst et12
    have ht12 := hr11 t12 rfl
    replace hl : lv_has ls 8 [(6, .ref (ad 3 t12)), (5, .int v5), (4, .int v3), (3, .int v1), (0, .ref (ad 5 0)), (1, .ref (ad 0 a1)), (2, .ref (ad 4 a2))] := hl
    replace hF := ob hF
    obtain ⟨v13, q14, hF⟩ := hF
    refine k_i (va_runVN (C := RX3) (As := [.int v1, .int v3]) (rest := []) ⟨hx, hb, hml, hown, hts⟩ (c3_hasLane l t12 v1 v3 ht12 q14) ⟨va_cnB 2 hts gX5_placeAgrees_X3_hasLane_n281 rfl rfl rfl (nm_11 hN) (hts (.initialized RX3) (by decide +kernel)) (by decide +kernel) ⟨Nat.le_of_ble_eq_true rfl, Nat.le_of_ble_eq_true rfl⟩, hts (.instanceMethod yX3_hasLane) (by decide +kernel), hts (.selects RX3 yX3_hasLane yX3_hasLane) (by decide +kernel)⟩ (k_preV hW hK hN ht12 (EE_3 cA ad S P M t12) rfl) rfl rfl hl.1 rfl (lv_room (Nat.le_of_ble_eq_true rfl)) dX5_placeAgrees_73 ⟨Nat.le_of_ble_eq_true rfl, Nat.le_of_ble_eq_true rfl⟩) hS ?_
    clear hW hS; intro H locs hW hS
    refine lv_if_eq (tgt := 98) hx hb dX5_placeAgrees_76 (by decide) (fun hc => ?_) (fun hc => ?_)
    · replace hF := it_t hF hc
      refine lv_iconst (v := (0 : Int32)) hx hb dX5_placeAgrees_98 (by decide) ?_
      have hq1 := Option.some.inj hF
      subst hq1
      exact e_z hx hb hr hlk hK hN hW hS (by decide) dX5_placeAgrees_99
    · replace hF := it_f hF hc
      refine lv_iload hx hb dX5_placeAgrees_79 (lv_at hl 1 rfl) ?_
      refine lv_iconst (v := (0 : Int32)) hx hb dX5_placeAgrees_81 (by decide) ?_
      refine lv_aload hx hb dX5_placeAgrees_82 (lv_at hl 0 rfl) ?_
      refine gn3_3 hx hb hts hi5_placeAgrees_3 hown hK hW ht12 (nf_3 hN) dX5_placeAgrees_84 ?_
      refine lv_aload_n hx hb dX5_placeAgrees_87 rfl (lv_at hl 6 rfl) ?_
      refine gn4_2 hx hb hts hi5_placeAgrees_4 hown hK hW ha2 (nf_24 hN) dX5_placeAgrees_88 ?_
      refine lv_isub hx hb dX5_placeAgrees_91 ?_
      replace hF := ob hF
      obtain ⟨v15, q16, hF⟩ := hF
      refine k_i (va_runS (As := [.int v5, .int (0 : Int32), .int ((S 303 t12) - (S 402 a2))]) (rest := []) ⟨hx, hb, hml, hown, hts⟩ (c5_within l v5 (0 : Int32) ((S 303 t12) - (S 402 a2)) q16) (va_cwS 3 hts gX5_placeAgrees_X5_within rfl rfl rfl (by decide +kernel) ⟨Nat.le_of_ble_eq_true rfl, Nat.le_of_ble_eq_true rfl⟩) (k_preS hW hK hN) rfl rfl hl.1 rfl (lv_room (Nat.le_of_ble_eq_true rfl)) dX5_placeAgrees_92 ⟨Nat.le_of_ble_eq_true rfl, Nat.le_of_ble_eq_true rfl⟩) hS ?_
      clear hW hS; intro H locs hW hS
      refine lv_if_ne (tgt := 100) hx hb dX5_placeAgrees_95 (by decide) (fun hc => ?_) (fun hc => ?_)
      · replace hF := it_f hF hc
        refine lv_iconst (v := (0 : Int32)) hx hb dX5_placeAgrees_100 (by decide) ?_
        refine lv_istore (lv' := [(7, .int (0 : Int32)), (6, .ref (ad 3 t12)), (5, .int v5), (4, .int v3), (3, .int v1), (0, .ref (ad 5 0)), (1, .ref (ad 0 a1)), (2, .ref (ad 4 a2))]) hx hb dX5_placeAgrees_101 hl (by decide) rfl ?_
        clear hl; intro ls hl
        refine w5_placeAgrees_103 C hK hN a1 a2 ha1 ha2 (hE := ?_) FU (0 : Int32) _ _ _ hF hW hS (lv_sub hl [5, 6, 7, 0] rfl)
        intro  H locs ls hF hW hS hl
        refine lv_iconst (v := (1 : Int32)) hx hb dX5_placeAgrees_163 (by decide) ?_
        have hq1 := Option.some.inj hF
        subst hq1
        exact e_z hx hb hr hlk hK hN hW hS (by decide) dX5_placeAgrees_164
      · replace hF := it_t hF hc
        refine lv_iconst (v := (0 : Int32)) hx hb dX5_placeAgrees_98 (by decide) ?_
        have hq1 := Option.some.inj hF
        subst hq1
        exact e_z hx hb hr hlk hK hN hW hS (by decide) dX5_placeAgrees_99
  · replace hF := it_f hF hc
    refine lv_iload_n hx hb dX5_placeAgrees_36 rfl (lv_at hl 2 rfl) ?_
    refine lv_iconst (v := (-1 : Int32)) hx hb dX5_placeAgrees_37 (by decide) ?_
    refine lv_icmp_ne (tgt := 57) hx hb dX5_placeAgrees_38 (by decide) (fun hc => ?_) (fun hc => ?_)
    · replace hF := it_f hF hc
      refine lv_iconst (v := (0 : Int32)) hx hb dX5_placeAgrees_57 (by decide) ?_
      have hq1 := Option.some.inj hF
      subst hq1
      exact e_z hx hb hr hlk hK hN hW hS (by decide) dX5_placeAgrees_58
    · replace hF := it_t hF hc
      refine lv_iload hx hb dX5_placeAgrees_41 (lv_at hl 1 rfl) ?_
      refine lv_iconst (v := (-1 : Int32)) hx hb dX5_placeAgrees_43 (by decide) ?_
      refine lv_icmp_ne (tgt := 57) hx hb dX5_placeAgrees_44 (by decide) (fun hc => ?_) (fun hc => ?_)
      · replace hF := it_f hF hc
        refine lv_iconst (v := (0 : Int32)) hx hb dX5_placeAgrees_57 (by decide) ?_
        have hq1 := Option.some.inj hF
        subst hq1
        exact e_z hx hb hr hlk hK hN hW hS (by decide) dX5_placeAgrees_58
      · replace hF := it_t hF hc
        refine lv_iload hx hb dX5_placeAgrees_47 (lv_at hl 0 rfl) ?_
        refine lv_iconst (v := (-1 : Int32)) hx hb dX5_placeAgrees_49 (by decide) ?_
        refine lv_icmp_ne (tgt := 57) hx hb dX5_placeAgrees_50 (by decide) (fun hc => ?_) (fun hc => ?_)
        · replace hF := it_f hF hc
          refine lv_iconst (v := (0 : Int32)) hx hb dX5_placeAgrees_57 (by decide) ?_
          have hq1 := Option.some.inj hF
          subst hq1
          exact e_z hx hb hr hlk hK hN hW hS (by decide) dX5_placeAgrees_58
        · replace hF := it_t hF hc
          refine lv_iconst (v := (1 : Int32)) hx hb dX5_placeAgrees_53 (by decide) ?_
          refine lv_goto (tgt := 58) hx hb dX5_placeAgrees_54 (by decide) ?_
          have hq1 := Option.some.inj hF
          subst hq1
          exact e_z hx hb hr hlk hK hN hW hS (by decide) dX5_placeAgrees_58

set_option maxHeartbeats 4000000 in
set_option maxRecDepth 100000 in
theorem c5_placeAgrees (l : Launch) {D : va_G} {cA : Nat → ClassId} {z : Nat} {ad : Nat → Nat → Nat} {N : TN} {S : TS} {P : TP} {M : TS} (a1 : Nat) (a2 : Nat) (ha1 : a1 < N 0) (ha2 : a2 < N 4) {v : Int32} (hF : f5_placeAgrees S P a1 a2 = some v) : Met l yX5_placeAgrees wsX5_placeAgrees rm5_placeAgrees (va_Pc [.ref (ad 5 0), .ref (ad 0 a1), .ref (ad 4 a2)] (Wl D cA z (ad, N, S, P, M))) (Qi D cA z v (ad, N, S, P, M)) 0 0 (fun q => z ≤ q) := by
  refine Met.ofW (cc := cX5_placeAgrees) (maxL := 8) (ret := (some .boolean)) (by decide) rfl ?_
  intro p e s m args below meth c s₁ B hml hv
  obtain ⟨rfl, hW, hK, hN⟩ := hv
  have hl := lv_entry ([.ref (ad 5 0), .ref (ad 0 a1), .ref (ad 4 a2)]) (n := 8) (Nat.le_of_ble_eq_true rfl)
  rw [lg_entry_eq]
  generalize (lg_sl ([.ref (ad 5 0), .ref (ad 0 a1), .ref (ad 4 a2)]) ++ List.replicate (8 - (lg_sl ([.ref (ad 5 0), .ref (ad 0 a1), .ref (ad 4 a2)])).length) Slot.unset).toArray = ls at hl ⊢
  exact w5_placeAgrees ⟨B.exec, B.bytes, B.returns, hml, findClass_of_methodNamed B.named, atoms_spec (ws := wsX5_placeAgrees) B.pre, B.notSynchronized⟩ hK hN a1 a2 ha1 ha2 hF hW va_S.rf hl

-- 5 cabinAgrees
abbrev rm5_cabinAgrees : Room := { frames := 3, cells := 0, slots := 0, locals := 66 }
def f5_cabinAgrees_86 (K : Option (Int32)) (S : TS) (P : TP) (c1 : Nat) (c2 : Nat) (c3 : Int32) : Nat → Int32 → Option (Int32)
  | 0, _ => none
  | n + 1, y5 =>
    if (S 507 0) ≤ y5 then
    (K)
    else
    ((ix y5 400).bind fun (j14 : Nat) =>
    lt (P 1000 0 j14) fun (r15 : Option Nat) =>
    if r15 = (some c2) then
    (f5_cabinAgrees_86 K S P c1 c2 c3 n (y5 + 1))
    else
    (r15.bind fun (t16 : Nat) =>
    lt (P 401 t16 0) fun (r17 : Option Nat) =>
    lt (P 401 c2 0) fun (r18 : Option Nat) =>
    if r17 = r18 then
    ((f0_mayHaveCabin S P c1 t16).bind fun (v19 : Int32) =>
    if v19 = 0 then
    (f5_cabinAgrees_86 K S P c1 c2 c3 n (y5 + 1))
    else
    ((f0_number S P c1 t16 (9 : Int32)).bind fun (v21 : Int32) =>
    if v21 = c3 then
    (some (0 : Int32))
    else
    (f5_cabinAgrees_86 K S P c1 c2 c3 n (y5 + 1))))
    else
    (f5_cabinAgrees_86 K S P c1 c2 c3 n (y5 + 1))))

def f5_cabinAgrees (S : TS) (P : TP) (a1 : Nat) (a2 : Nat) : Option (Int32) :=
  (f0_number S P a1 a2 (9 : Int32)).bind fun (v1 : Int32) =>
  if v1 = (-1 : Int32) then
  (some (1 : Int32))
  else
  ((f0_mayHaveCabin S P a1 a2).bind fun (v3 : Int32) =>
  if v3 = 0 then
  (some (0 : Int32))
  else
  (if (S 404 a2) = 0 then
  (some (0 : Int32))
  else
  ((f5_within v1 (0 : Int32) ((S 503 0) - (1 : Int32))).bind fun (v5 : Int32) =>
  if v5 = 0 then
  (some (0 : Int32))
  else
  ((ix v1 120).bind fun (j7 : Nat) =>
  lt (P 800 0 j7) fun (r8 : Option Nat) =>
  r8.bind fun (t9 : Nat) =>
  lt (P 100 t9 0) fun (r10 : Option Nat) =>
  lt (P 401 a2 0) fun (r11 : Option Nat) =>
  r11.bind fun (t12 : Nat) =>
  lt (P 201 t12 0) fun (r13 : Option Nat) =>
  if r10 = r13 then
  (if (S 404 a2) ≤ (S 101 t9) then
  (f5_cabinAgrees_86 (some (1 : Int32)) S P a1 a2 v1 FU (0 : Int32))
  else
  (some (0 : Int32)))
  else
  (some (0 : Int32))))))
set_option maxRecDepth 20000 in
theorem hi5_cabinAgrees_1 : ∀ w ∈ u_ws RX1 TX1 3, w ∈ wsX5_cabinAgrees := by decide +kernel
set_option maxRecDepth 20000 in
theorem hi5_cabinAgrees_2 : ∀ w ∈ u_ws RX2 TX2 9, w ∈ wsX5_cabinAgrees := by decide +kernel
set_option maxRecDepth 20000 in
theorem hi5_cabinAgrees_4 : ∀ w ∈ u_ws RX4 TX4 16, w ∈ wsX5_cabinAgrees := by decide +kernel
set_option maxRecDepth 20000 in
theorem hi5_cabinAgrees_5 : ∀ w ∈ u_ws RX5 TX5 12, w ∈ wsX5_cabinAgrees := by decide +kernel
set_option maxHeartbeats 4000000 in
set_option maxRecDepth 100000 in
theorem w5_cabinAgrees_86 {p : Program} {l : Launch} {e : Env} {s : State} {m : MethodId} {args : Array Value} {below : List Frame} {meth : Method} {c : Code} (C : MC p s m args meth c cX5_cabinAgrees (some .boolean) 7 RX5 wsX5_cabinAgrees) {D : va_G} {cA : Nat → ClassId} {z : Nat} {ad : Nat → Nat → Nat} {N : TN} (hK : va_K D vwCl (tysW cA) s) (hN : NW s) {M : TS} {S : TS} {P : TP} (c1 : Nat) (c2 : Nat) (c3 : Int32) (hc1 : c1 < N 0) (hc2 : c2 < N 4) {v : Int32} {K : Option (Int32)}
    (hE : ∀ (H : Heap) (locs : List Loc) (ls : Array Slot), K = some v → Wd D cA z ad N S P M H → va_S (fun q => z ≤ q) s.heap H locs → lv_has ls 7 [] → W p l e rm5_cabinAgrees s m args below meth c H locs 0 0 (MQ below (Qi D cA z v (ad, N, S, P, M)) args s 0 0 (fun q => z ≤ q)) (F0 m 151 ls [])) :
    ∀ (n : Nat) (y5 : Int32) (H : Heap) (locs : List Loc) (ls : Array Slot), f5_cabinAgrees_86 K S P c1 c2 c3 n y5 = some v → Wd D cA z ad N S P M H → va_S (fun q => z ≤ q) s.heap H locs → lv_has ls 7 [(0, .ref (ad 5 0)), (1, .ref (ad 0 c1)), (2, .ref (ad 4 c2)), (3, .int c3), (5, .int y5)] → W p l e rm5_cabinAgrees s m args below meth c H locs 0 0 (MQ below (Qi D cA z v (ad, N, S, P, M)) args s 0 0 (fun q => z ≤ q)) (F0 m 86 ls []) := by
  obtain ⟨hx, hb, hr, hml, hown, hts, hlk⟩ := id C
  intro n
  induction n with
  | zero => intro y5 H locs ls hF; cases hF
  | succ n ih =>
    intro y5 H locs ls hF hW hS hl
    rw [f5_cabinAgrees_86] at hF
    refine lv_iload hx hb dX5_cabinAgrees_86 (lv_at hl 4 rfl) ?_
    refine lv_aload_n hx hb dX5_cabinAgrees_88 rfl (lv_at hl 0 rfl) ?_
    refine g5_7 hx hb hts hi5_cabinAgrees_5 hown hK hW (hts (.fieldLink RX5 100 RX5 "ticketCount" "I") (by decide +kernel)) dX5_cabinAgrees_89 ?_
    refine lv_icmp_ge (tgt := 151) hx hb dX5_cabinAgrees_92 (by decide) (fun hc => ?_) (fun hc => ?_)
    · replace hF := it_t hF hc
      exact hE _ _ _ hF hW hS (lv_sub hl [] rfl)
    · replace hF := it_f hF hc
      refine lv_aload_n hx hb dX5_cabinAgrees_95 rfl (lv_at hl 0 rfl) ?_
      refine g5_6 hx hb hts hi5_cabinAgrees_5 hown hK hW (hts (.fieldLink RX5 29 RX5 "tickets" "[LFerryTerminal$Ticket;") (by decide +kernel)) dX5_cabinAgrees_96 ?_
      refine lv_iload hx hb dX5_cabinAgrees_99 (lv_at hl 4 rfl) ?_
      replace hF := ob hF
      obtain ⟨j14, ej14, hF⟩ := hF
      replace hF := lt_ex hF
      obtain ⟨r15, er15, hF⟩ := hF
      have hr15 : ∀ y, r15 = some y → y < N 4 := hW.v er15
      refine l10 hx hb hK hW ej14 er15 dX5_cabinAgrees_101 ?_
      refine q_astore (lv' := [(6, va_rf (r15.map (ad 4))), (0, .ref (ad 5 0)), (1, .ref (ad 0 c1)), (2, .ref (ad 4 c2)), (3, .int c3), (5, .int y5)]) hx hb dX5_cabinAgrees_102 hl (by decide) rfl ?_
      clear hl; intro ls hl
      refine q_aload hx hb dX5_cabinAgrees_104 (lv_at hl 0 rfl) ?_
      refine lv_aload_n hx hb dX5_cabinAgrees_106 rfl (lv_at hl 3 rfl) ?_
      refine q_acmp_eq hx hb hW 4 r15 (some c2) hr15 (q_some hc2) (tgt := 145) dX5_cabinAgrees_107 (by decide) (fun hc => ?_) (fun hc => ?_)
      · replace hF := it_t hF hc
        refine lv_iinc (v := y5 + 1) (lv' := [(5, .int (y5 + 1)), (6, va_rf (r15.map (ad 4))), (0, .ref (ad 5 0)), (1, .ref (ad 0 c1)), (2, .ref (ad 4 c2)), (3, .int c3)]) hx hb dX5_cabinAgrees_145 hl (k := 5) rfl rfl (by decide) rfl ?_
        clear hl; intro ls hl
        refine lv_goto (tgt := 86) hx hb dX5_cabinAgrees_148 (by decide) ?_
        exact ih (y5 + 1) _ _ _ hF hW hS (lv_sub hl [2, 3, 4, 5, 0] rfl)
      · replace hF := it_f hF hc
        refine q_aload hx hb dX5_cabinAgrees_110 (lv_at hl 0 rfl) ?_
        replace hF := ob hF
        obtain ⟨t16, et16, hF⟩ := hF
        subst et16
        have ht16 := hr15 t16 rfl
        replace hl : lv_has ls 7 [(6, .ref (ad 4 t16)), (0, .ref (ad 5 0)), (1, .ref (ad 0 c1)), (2, .ref (ad 4 c2)), (3, .int c3), (5, .int y5)] := hl
        replace hF := lt_ex hF
        obtain ⟨r17, er17, hF⟩ := hF
        have hr17 : ∀ y, r17 = some y → y < N 2 := hW.v er17
        refine gn4_1 hx hb hts hi5_cabinAgrees_4 hown hK hW ht16 er17 (nf_22 hN) dX5_cabinAgrees_112 ?_
        refine lv_aload_n hx hb dX5_cabinAgrees_115 rfl (lv_at hl 3 rfl) ?_
        replace hF := lt_ex hF
        obtain ⟨r18, er18, hF⟩ := hF
        have hr18 : ∀ y, r18 = some y → y < N 2 := hW.v er18
        refine gn4_1 hx hb hts hi5_cabinAgrees_4 hown hK hW hc2 er18 (nf_22 hN) dX5_cabinAgrees_116 ?_
        refine q_acmp_ne hx hb hW 2 r17 r18 hr17 hr18 (tgt := 145) dX5_cabinAgrees_119 (by decide) (fun hc => ?_) (fun hc => ?_)
        · replace hF := it_f hF hc
          refine lv_iinc (v := y5 + 1) (lv' := [(5, .int (y5 + 1)), (6, .ref (ad 4 t16)), (0, .ref (ad 5 0)), (1, .ref (ad 0 c1)), (2, .ref (ad 4 c2)), (3, .int c3)]) hx hb dX5_cabinAgrees_145 hl (k := 5) rfl rfl (by decide) rfl ?_
          clear hl; intro ls hl
          refine lv_goto (tgt := 86) hx hb dX5_cabinAgrees_148 (by decide) ?_
          exact ih (y5 + 1) _ _ _ hF hW hS (lv_sub hl [2, 3, 4, 5, 0] rfl)
        · replace hF := it_t hF hc
          refine lv_aload_n hx hb dX5_cabinAgrees_122 rfl (lv_at hl 2 rfl) ?_
          refine lv_aload hx hb dX5_cabinAgrees_123 (lv_at hl 0 rfl) ?_
          replace hF := ob hF
          obtain ⟨v19, q20, hF⟩ := hF
          refine k_i (va_runVN (C := RX0) (As := [.ref (ad 4 t16)]) (rest := []) ⟨hx, hb, hml, hown, hts⟩ (c0_mayHaveCabin l c1 t16 hc1 ht16 q20) ⟨va_cnB 1 hts gX5_cabinAgrees_X0_mayHaveCabin_n330 rfl rfl rfl (nm_18 hN) (hts (.initialized RX0) (by decide +kernel)) (by decide +kernel) ⟨Nat.le_of_ble_eq_true rfl, Nat.le_of_ble_eq_true rfl⟩, hts (.instanceMethod yX0_mayHaveCabin) (by decide +kernel), hts (.selects RX0 yX0_mayHaveCabin yX0_mayHaveCabin) (by decide +kernel)⟩ (k_preV hW hK hN hc1 (EE_0 cA ad S P M c1) rfl) rfl rfl hl.1 rfl (lv_room (Nat.le_of_ble_eq_true rfl)) dX5_cabinAgrees_125 ⟨Nat.le_of_ble_eq_true rfl, Nat.le_of_ble_eq_true rfl⟩) hS ?_
          clear hW hS; intro H locs hW hS
          refine lv_if_eq (tgt := 145) hx hb dX5_cabinAgrees_128 (by decide) (fun hc => ?_) (fun hc => ?_)
          · replace hF := it_t hF hc
            refine lv_iinc (v := y5 + 1) (lv' := [(5, .int (y5 + 1)), (6, .ref (ad 4 t16)), (0, .ref (ad 5 0)), (1, .ref (ad 0 c1)), (2, .ref (ad 4 c2)), (3, .int c3)]) hx hb dX5_cabinAgrees_145 hl (k := 5) rfl rfl (by decide) rfl ?_
            clear hl; intro ls hl
            refine lv_goto (tgt := 86) hx hb dX5_cabinAgrees_148 (by decide) ?_
            exact ih (y5 + 1) _ _ _ hF hW hS (lv_sub hl [2, 3, 4, 5, 0] rfl)
          · replace hF := it_f hF hc
            refine lv_aload_n hx hb dX5_cabinAgrees_131 rfl (lv_at hl 2 rfl) ?_
            refine lv_aload hx hb dX5_cabinAgrees_132 (lv_at hl 0 rfl) ?_
            refine lv_bipush (v := (9 : Int32)) hx hb dX5_cabinAgrees_134 (by decide) ?_
            replace hF := ob hF
            obtain ⟨v21, q22, hF⟩ := hF
            refine k_i (va_runVN (C := RX0) (As := [.ref (ad 4 t16), .int (9 : Int32)]) (rest := []) ⟨hx, hb, hml, hown, hts⟩ (c0_number l c1 t16 (9 : Int32) hc1 ht16 q22) ⟨va_cnB 2 hts gX5_cabinAgrees_X0_number_n324 rfl rfl rfl (nm_16 hN) (hts (.initialized RX0) (by decide +kernel)) (by decide +kernel) ⟨Nat.le_of_ble_eq_true rfl, Nat.le_of_ble_eq_true rfl⟩, hts (.instanceMethod yX0_number) (by decide +kernel), hts (.selects RX0 yX0_number yX0_number) (by decide +kernel)⟩ (k_preV hW hK hN hc1 (EE_0 cA ad S P M c1) rfl) rfl rfl hl.1 rfl (lv_room (Nat.le_of_ble_eq_true rfl)) dX5_cabinAgrees_136 ⟨Nat.le_of_ble_eq_true rfl, Nat.le_of_ble_eq_true rfl⟩) hS ?_
            clear hW hS; intro H locs hW hS
            refine lv_iload_n hx hb dX5_cabinAgrees_139 rfl (lv_at hl 4 rfl) ?_
            refine lv_icmp_ne (tgt := 145) hx hb dX5_cabinAgrees_140 (by decide) (fun hc => ?_) (fun hc => ?_)
            · replace hF := it_f hF hc
              refine lv_iinc (v := y5 + 1) (lv' := [(5, .int (y5 + 1)), (6, .ref (ad 4 t16)), (0, .ref (ad 5 0)), (1, .ref (ad 0 c1)), (2, .ref (ad 4 c2)), (3, .int c3)]) hx hb dX5_cabinAgrees_145 hl (k := 5) rfl rfl (by decide) rfl ?_
              clear hl; intro ls hl
              refine lv_goto (tgt := 86) hx hb dX5_cabinAgrees_148 (by decide) ?_
              exact ih (y5 + 1) _ _ _ hF hW hS (lv_sub hl [2, 3, 4, 5, 0] rfl)
            · replace hF := it_t hF hc
              refine lv_iconst (v := (0 : Int32)) hx hb dX5_cabinAgrees_143 (by decide) ?_
              have hq1 := Option.some.inj hF
              subst hq1
              exact e_z hx hb hr hlk hK hN hW hS (by decide) dX5_cabinAgrees_144

set_option maxHeartbeats 4000000 in
set_option maxRecDepth 100000 in
theorem w5_cabinAgrees {p : Program} {l : Launch} {e : Env} {s : State} {m : MethodId} {args : Array Value} {below : List Frame} {meth : Method} {c : Code} (C : MC p s m args meth c cX5_cabinAgrees (some .boolean) 7 RX5 wsX5_cabinAgrees) {D : va_G} {cA : Nat → ClassId} {z : Nat} {ad : Nat → Nat → Nat} {N : TN} (hK : va_K D vwCl (tysW cA) s) (hN : NW s) {S : TS} {P : TP} {M : TS} (a1 : Nat) (a2 : Nat) (ha1 : a1 < N 0) (ha2 : a2 < N 4) {v : Int32} (hF : f5_cabinAgrees S P a1 a2 = some v)
    {H : Heap} {ls : Array Slot} (hW : Wd D cA z ad N S P M H) {locs : List Loc} (hS : va_S (fun q => z ≤ q) s.heap H locs) (hl : lv_has ls 7 [(0, .ref (ad 5 0)), (1, .ref (ad 0 a1)), (2, .ref (ad 4 a2))]) : W p l e rm5_cabinAgrees s m args below meth c H locs 0 0 (MQ below (Qi D cA z v (ad, N, S, P, M)) args s 0 0 (fun q => z ≤ q)) (F0 m 0 ls []) := by
  obtain ⟨hx, hb, hr, hml, hown, hts, hlk⟩ := id C
  unfold f5_cabinAgrees at hF
  refine lv_aload_n hx hb dX5_cabinAgrees_0 rfl (lv_at hl 1 rfl) ?_
  refine lv_aload_n hx hb dX5_cabinAgrees_1 rfl (lv_at hl 2 rfl) ?_
  refine lv_bipush (v := (9 : Int32)) hx hb dX5_cabinAgrees_2 (by decide) ?_
  replace hF := ob hF
  obtain ⟨v1, q2, hF⟩ := hF
  refine k_i (va_runVN (C := RX0) (As := [.ref (ad 4 a2), .int (9 : Int32)]) (rest := []) ⟨hx, hb, hml, hown, hts⟩ (c0_number l a1 a2 (9 : Int32) ha1 ha2 q2) ⟨va_cnB 2 hts gX5_cabinAgrees_X0_number_n324 rfl rfl rfl (nm_16 hN) (hts (.initialized RX0) (by decide +kernel)) (by decide +kernel) ⟨Nat.le_of_ble_eq_true rfl, Nat.le_of_ble_eq_true rfl⟩, hts (.instanceMethod yX0_number) (by decide +kernel), hts (.selects RX0 yX0_number yX0_number) (by decide +kernel)⟩ (k_preV hW hK hN ha1 (EE_0 cA ad S P M a1) rfl) rfl rfl hl.1 rfl (lv_room (Nat.le_of_ble_eq_true rfl)) dX5_cabinAgrees_4 ⟨Nat.le_of_ble_eq_true rfl, Nat.le_of_ble_eq_true rfl⟩) hS ?_
  clear hW hS; intro H locs hW hS
  refine lv_istore_n (lv' := [(3, .int v1), (0, .ref (ad 5 0)), (1, .ref (ad 0 a1)), (2, .ref (ad 4 a2))]) hx hb dX5_cabinAgrees_7 rfl hl (by decide) rfl ?_
  clear hl; intro ls hl
  refine lv_iload_n hx hb dX5_cabinAgrees_8 rfl (lv_at hl 0 rfl) ?_
  refine lv_iconst (v := (-1 : Int32)) hx hb dX5_cabinAgrees_9 (by decide) ?_
  refine lv_icmp_ne (tgt := 15) hx hb dX5_cabinAgrees_10 (by decide) (fun hc => ?_) (fun hc => ?_)
  · replace hF := it_f hF hc
    refine lv_aload_n hx hb dX5_cabinAgrees_15 rfl (lv_at hl 2 rfl) ?_
    refine lv_aload_n hx hb dX5_cabinAgrees_16 rfl (lv_at hl 3 rfl) ?_
    replace hF := ob hF
    obtain ⟨v3, q4, hF⟩ := hF
    refine k_i (va_runVN (C := RX0) (As := [.ref (ad 4 a2)]) (rest := []) ⟨hx, hb, hml, hown, hts⟩ (c0_mayHaveCabin l a1 a2 ha1 ha2 q4) ⟨va_cnB 1 hts gX5_cabinAgrees_X0_mayHaveCabin_n330 rfl rfl rfl (nm_18 hN) (hts (.initialized RX0) (by decide +kernel)) (by decide +kernel) ⟨Nat.le_of_ble_eq_true rfl, Nat.le_of_ble_eq_true rfl⟩, hts (.instanceMethod yX0_mayHaveCabin) (by decide +kernel), hts (.selects RX0 yX0_mayHaveCabin yX0_mayHaveCabin) (by decide +kernel)⟩ (k_preV hW hK hN ha1 (EE_0 cA ad S P M a1) rfl) rfl rfl hl.1 rfl (lv_room (Nat.le_of_ble_eq_true rfl)) dX5_cabinAgrees_17 ⟨Nat.le_of_ble_eq_true rfl, Nat.le_of_ble_eq_true rfl⟩) hS ?_
    clear hW hS; intro H locs hW hS
    refine lv_if_eq (tgt := 44) hx hb dX5_cabinAgrees_20 (by decide) (fun hc => ?_) (fun hc => ?_)
    · replace hF := it_t hF hc
      refine lv_iconst (v := (0 : Int32)) hx hb dX5_cabinAgrees_44 (by decide) ?_
      have hq1 := Option.some.inj hF
      subst hq1
      exact e_z hx hb hr hlk hK hN hW hS (by decide) dX5_cabinAgrees_45
    · replace hF := it_f hF hc
      refine lv_aload_n hx hb dX5_cabinAgrees_23 rfl (lv_at hl 3 rfl) ?_
      refine gn4_4 hx hb hts hi5_cabinAgrees_4 hown hK hW ha2 (nf_26 hN) dX5_cabinAgrees_24 ?_
      refine lv_if_eq (tgt := 44) hx hb dX5_cabinAgrees_27 (by decide) (fun hc => ?_) (fun hc => ?_)
      · replace hF := it_t hF hc
        refine lv_iconst (v := (0 : Int32)) hx hb dX5_cabinAgrees_44 (by decide) ?_
        have hq1 := Option.some.inj hF
        subst hq1
        exact e_z hx hb hr hlk hK hN hW hS (by decide) dX5_cabinAgrees_45
      · replace hF := it_f hF hc
        refine lv_iload_n hx hb dX5_cabinAgrees_30 rfl (lv_at hl 0 rfl) ?_
        refine lv_iconst (v := (0 : Int32)) hx hb dX5_cabinAgrees_31 (by decide) ?_
        refine lv_aload_n hx hb dX5_cabinAgrees_32 rfl (lv_at hl 1 rfl) ?_
        refine g5_3 hx hb hts hi5_cabinAgrees_5 hown hK hW (hts (.fieldLink RX5 58 RX5 "cabinCount" "I") (by decide +kernel)) dX5_cabinAgrees_33 ?_
        refine lv_iconst (v := (1 : Int32)) hx hb dX5_cabinAgrees_36 (by decide) ?_
        refine lv_isub hx hb dX5_cabinAgrees_37 ?_
        replace hF := ob hF
        obtain ⟨v5, q6, hF⟩ := hF
        refine k_i (va_runS (As := [.int v1, .int (0 : Int32), .int ((S 503 0) - (1 : Int32))]) (rest := []) ⟨hx, hb, hml, hown, hts⟩ (c5_within l v1 (0 : Int32) ((S 503 0) - (1 : Int32)) q6) (va_cwS 3 hts gX5_cabinAgrees_X5_within rfl rfl rfl (by decide +kernel) ⟨Nat.le_of_ble_eq_true rfl, Nat.le_of_ble_eq_true rfl⟩) (k_preS hW hK hN) rfl rfl hl.1 rfl (lv_room (Nat.le_of_ble_eq_true rfl)) dX5_cabinAgrees_38 ⟨Nat.le_of_ble_eq_true rfl, Nat.le_of_ble_eq_true rfl⟩) hS ?_
        clear hW hS; intro H locs hW hS
        refine lv_if_ne (tgt := 46) hx hb dX5_cabinAgrees_41 (by decide) (fun hc => ?_) (fun hc => ?_)
        · replace hF := it_f hF hc
          refine lv_aload_n hx hb dX5_cabinAgrees_46 rfl (lv_at hl 1 rfl) ?_
          refine g5_2 hx hb hts hi5_cabinAgrees_5 hown hK hW (hts (.fieldLink RX5 17 RX5 "cabins" "[LFerryTerminal$Cabin;") (by decide +kernel)) dX5_cabinAgrees_47 ?_
          refine lv_iload_n hx hb dX5_cabinAgrees_50 rfl (lv_at hl 0 rfl) ?_
          replace hF := ob hF
          obtain ⟨j7, ej7, hF⟩ := hF
          replace hF := lt_ex hF
          obtain ⟨r8, er8, hF⟩ := hF
          have hr8 : ∀ y, r8 = some y → y < N 1 := hW.v er8
          refine l8 hx hb hK hW ej7 er8 dX5_cabinAgrees_51 ?_
          refine q_astore (lv' := [(4, va_rf (r8.map (ad 1))), (3, .int v1), (0, .ref (ad 5 0)), (1, .ref (ad 0 a1)), (2, .ref (ad 4 a2))]) hx hb dX5_cabinAgrees_52 hl (by decide) rfl ?_
          clear hl; intro ls hl
          refine q_aload hx hb dX5_cabinAgrees_54 (lv_at hl 0 rfl) ?_
          replace hF := ob hF
          obtain ⟨t9, et9, hF⟩ := hF
          subst et9
          have ht9 := hr8 t9 rfl
          replace hl : lv_has ls 7 [(4, .ref (ad 1 t9)), (3, .int v1), (0, .ref (ad 5 0)), (1, .ref (ad 0 a1)), (2, .ref (ad 4 a2))] := hl
          replace hF := lt_ex hF
          obtain ⟨r10, er10, hF⟩ := hF
          have hr10 : ∀ y, r10 = some y → y < N 3 := hW.v er10
          refine gn1_0 hx hb hts hi5_cabinAgrees_1 hown hK hW ht9 er10 (nf_7 hN) dX5_cabinAgrees_56 ?_
          refine lv_aload_n hx hb dX5_cabinAgrees_59 rfl (lv_at hl 4 rfl) ?_
          replace hF := lt_ex hF
          obtain ⟨r11, er11, hF⟩ := hF
          have hr11 : ∀ y, r11 = some y → y < N 2 := hW.v er11
          refine gn4_1 hx hb hts hi5_cabinAgrees_4 hown hK hW ha2 er11 (nf_22 hN) dX5_cabinAgrees_60 ?_
          replace hF := ob hF
          obtain ⟨t12, et12, hF⟩ := hF
          subst et12
          have ht12 := hr11 t12 rfl
          replace hF := lt_ex hF
          obtain ⟨r13, er13, hF⟩ := hF
          have hr13 : ∀ y, r13 = some y → y < N 3 := hW.v er13
          refine gn2_1 hx hb hts hi5_cabinAgrees_2 hown hK hW ht12 er13 (nf_12 hN) dX5_cabinAgrees_63 ?_
          refine q_acmp_ne hx hb hW 3 r10 r13 hr10 hr13 (tgt := 81) dX5_cabinAgrees_66 (by decide) (fun hc => ?_) (fun hc => ?_)
          · replace hF := it_f hF hc
            refine lv_iconst (v := (0 : Int32)) hx hb dX5_cabinAgrees_81 (by decide) ?_
            have hq1 := Option.some.inj hF
            subst hq1
            exact e_z hx hb hr hlk hK hN hW hS (by decide) dX5_cabinAgrees_82
          · replace hF := it_t hF hc
            refine lv_aload hx hb dX5_cabinAgrees_69 (lv_at hl 0 rfl) ?_
            refine gn1_1 hx hb hts hi5_cabinAgrees_1 hown hK hW ht9 (nf_8 hN) dX5_cabinAgrees_71 ?_
            refine lv_aload_n hx hb dX5_cabinAgrees_74 rfl (lv_at hl 4 rfl) ?_
            refine gn4_4 hx hb hts hi5_cabinAgrees_4 hown hK hW ha2 (nf_26 hN) dX5_cabinAgrees_75 ?_
            refine lv_icmp_ge (tgt := 83) hx hb dX5_cabinAgrees_78 (by decide) (fun hc => ?_) (fun hc => ?_)
            · replace hF := it_t hF hc
              refine lv_iconst (v := (0 : Int32)) hx hb dX5_cabinAgrees_83 (by decide) ?_
              refine lv_istore (lv' := [(5, .int (0 : Int32)), (4, .ref (ad 1 t9)), (3, .int v1), (0, .ref (ad 5 0)), (1, .ref (ad 0 a1)), (2, .ref (ad 4 a2))]) hx hb dX5_cabinAgrees_84 hl (by decide) rfl ?_
              clear hl; intro ls hl
              refine w5_cabinAgrees_86 C hK hN a1 a2 v1 ha1 ha2 (hE := ?_) FU (0 : Int32) _ _ _ hF hW hS (lv_sub hl [3, 4, 5, 2, 0] rfl)
              intro  H locs ls hF hW hS hl
              refine lv_iconst (v := (1 : Int32)) hx hb dX5_cabinAgrees_151 (by decide) ?_
              have hq1 := Option.some.inj hF
              subst hq1
              exact e_z hx hb hr hlk hK hN hW hS (by decide) dX5_cabinAgrees_152
            · replace hF := it_f hF hc
              refine lv_iconst (v := (0 : Int32)) hx hb dX5_cabinAgrees_81 (by decide) ?_
              have hq1 := Option.some.inj hF
              subst hq1
              exact e_z hx hb hr hlk hK hN hW hS (by decide) dX5_cabinAgrees_82
        · replace hF := it_t hF hc
          refine lv_iconst (v := (0 : Int32)) hx hb dX5_cabinAgrees_44 (by decide) ?_
          have hq1 := Option.some.inj hF
          subst hq1
          exact e_z hx hb hr hlk hK hN hW hS (by decide) dX5_cabinAgrees_45
  · replace hF := it_t hF hc
    refine lv_iconst (v := (1 : Int32)) hx hb dX5_cabinAgrees_13 (by decide) ?_
    have hq1 := Option.some.inj hF
    subst hq1
    exact e_z hx hb hr hlk hK hN hW hS (by decide) dX5_cabinAgrees_14

set_option maxHeartbeats 4000000 in
set_option maxRecDepth 100000 in
theorem c5_cabinAgrees (l : Launch) {D : va_G} {cA : Nat → ClassId} {z : Nat} {ad : Nat → Nat → Nat} {N : TN} {S : TS} {P : TP} {M : TS} (a1 : Nat) (a2 : Nat) (ha1 : a1 < N 0) (ha2 : a2 < N 4) {v : Int32} (hF : f5_cabinAgrees S P a1 a2 = some v) : Met l yX5_cabinAgrees wsX5_cabinAgrees rm5_cabinAgrees (va_Pc [.ref (ad 5 0), .ref (ad 0 a1), .ref (ad 4 a2)] (Wl D cA z (ad, N, S, P, M))) (Qi D cA z v (ad, N, S, P, M)) 0 0 (fun q => z ≤ q) := by
  refine Met.ofW (cc := cX5_cabinAgrees) (maxL := 7) (ret := (some .boolean)) (by decide) rfl ?_
  intro p e s m args below meth c s₁ B hml hv
  obtain ⟨rfl, hW, hK, hN⟩ := hv
  have hl := lv_entry ([.ref (ad 5 0), .ref (ad 0 a1), .ref (ad 4 a2)]) (n := 7) (Nat.le_of_ble_eq_true rfl)
  rw [lg_entry_eq]
  generalize (lg_sl ([.ref (ad 5 0), .ref (ad 0 a1), .ref (ad 4 a2)]) ++ List.replicate (7 - (lg_sl ([.ref (ad 5 0), .ref (ad 0 a1), .ref (ad 4 a2)])).length) Slot.unset).toArray = ls at hl ⊢
  exact w5_cabinAgrees ⟨B.exec, B.bytes, B.returns, hml, findClass_of_methodNamed B.named, atoms_spec (ws := wsX5_cabinAgrees) B.pre, B.notSynchronized⟩ hK hN a1 a2 ha1 ha2 hF hW va_S.rf hl

-- 5 minuteAgrees
abbrev rm5_minuteAgrees : Room := { frames := 2, cells := 0, slots := 0, locals := 44 }
def f5_minuteAgrees (S : TS) (P : TP) (a0 : Nat) (a1 : Nat) : Option (Int32) :=
  (f0_number S P a0 a1 (5 : Int32)).bind fun (v1 : Int32) =>
  (f0_number S P a0 a1 (4 : Int32)).bind fun (v3 : Int32) =>
  if v3 = 0 then
  (if v1 = (-1 : Int32) then
  (some (1 : Int32))
  else
  (some (0 : Int32)))
  else
  (if v3 = 1 then
  ((f5_within v1 (0 : Int32) (200000 : Int32)).bind fun (v5 : Int32) =>
  if v5 = 0 ∨ v5 = 1 then some v5 else none)
  else
  (if v3 = 2 then
  ((f5_within v1 (0 : Int32) (200000 : Int32)).bind fun (v8 : Int32) =>
  if v8 = 0 ∨ v8 = 1 then some v8 else none)
  else
  (if v3 = 3 then
  ((f5_within v1 (0 : Int32) (200000 : Int32)).bind fun (v11 : Int32) =>
  if v11 = 0 ∨ v11 = 1 then some v11 else none)
  else
  (if v3 = 4 then
  ((f5_within v1 (0 : Int32) (200000 : Int32)).bind fun (v14 : Int32) =>
  if v14 = 0 ∨ v14 = 1 then some v14 else none)
  else
  (if v3 = 5 then
  (some (1 : Int32))
  else
  (if v3 = 6 then
  ((f5_within v1 (0 : Int32) (200000 : Int32)).bind fun (v17 : Int32) =>
  if v17 = 0 ∨ v17 = 1 then some v17 else none)
  else
  (if v3 = 7 then
  (if v1 = (-1 : Int32) then
  (some (1 : Int32))
  else
  (some (0 : Int32)))
  else
  (some (1 : Int32)))))))))
set_option maxHeartbeats 4000000 in
set_option maxRecDepth 100000 in
theorem w5_minuteAgrees {p : Program} {l : Launch} {e : Env} {s : State} {m : MethodId} {args : Array Value} {below : List Frame} {meth : Method} {c : Code} (C : MC p s m args meth c cX5_minuteAgrees (some .boolean) 3 RX5 wsX5_minuteAgrees) {D : va_G} {cA : Nat → ClassId} {z : Nat} {ad : Nat → Nat → Nat} {N : TN} (hK : va_K D vwCl (tysW cA) s) (hN : NW s) {S : TS} {P : TP} {M : TS} (a0 : Nat) (a1 : Nat) (ha0 : a0 < N 0) (ha1 : a1 < N 4) {v : Int32} (hF : f5_minuteAgrees S P a0 a1 = some v)
    {H : Heap} {ls : Array Slot} (hW : Wd D cA z ad N S P M H) {locs : List Loc} (hS : va_S (fun q => z ≤ q) s.heap H locs) (hl : lv_has ls 3 [(0, .ref (ad 0 a0)), (1, .ref (ad 4 a1))]) : W p l e rm5_minuteAgrees s m args below meth c H locs 0 0 (MQ below (Qi D cA z v (ad, N, S, P, M)) args s 0 0 (fun q => z ≤ q)) (F0 m 0 ls []) := by
  obtain ⟨hx, hb, hr, hml, hown, hts, hlk⟩ := id C
  unfold f5_minuteAgrees at hF
  refine lv_aload_n hx hb dX5_minuteAgrees_0 rfl (lv_at hl 0 rfl) ?_
  refine lv_aload_n hx hb dX5_minuteAgrees_1 rfl (lv_at hl 1 rfl) ?_
  refine lv_iconst (v := (5 : Int32)) hx hb dX5_minuteAgrees_2 (by decide) ?_
  replace hF := ob hF
  obtain ⟨v1, q2, hF⟩ := hF
  refine k_i (va_runVN (C := RX0) (As := [.ref (ad 4 a1), .int (5 : Int32)]) (rest := []) ⟨hx, hb, hml, hown, hts⟩ (c0_number l a0 a1 (5 : Int32) ha0 ha1 q2) ⟨va_cnB 2 hts gX5_minuteAgrees_X0_number_n324 rfl rfl rfl (nm_16 hN) (hts (.initialized RX0) (by decide +kernel)) (by decide +kernel) ⟨Nat.le_of_ble_eq_true rfl, Nat.le_of_ble_eq_true rfl⟩, hts (.instanceMethod yX0_number) (by decide +kernel), hts (.selects RX0 yX0_number yX0_number) (by decide +kernel)⟩ (k_preV hW hK hN ha0 (EE_0 cA ad S P M a0) rfl) rfl rfl hl.1 rfl (lv_room (Nat.le_of_ble_eq_true rfl)) dX5_minuteAgrees_3 ⟨Nat.le_of_ble_eq_true rfl, Nat.le_of_ble_eq_true rfl⟩) hS ?_
  clear hW hS; intro H locs hW hS
  refine lv_istore_n (lv' := [(2, .int v1), (0, .ref (ad 0 a0)), (1, .ref (ad 4 a1))]) hx hb dX5_minuteAgrees_6 rfl hl (by decide) rfl ?_
  clear hl; intro ls hl
  refine lv_aload_n hx hb dX5_minuteAgrees_7 rfl (lv_at hl 1 rfl) ?_
  refine lv_aload_n hx hb dX5_minuteAgrees_8 rfl (lv_at hl 2 rfl) ?_
  refine lv_iconst (v := (4 : Int32)) hx hb dX5_minuteAgrees_9 (by decide) ?_
  replace hF := ob hF
  obtain ⟨v3, q4, hF⟩ := hF
  refine k_i (va_runVN (C := RX0) (As := [.ref (ad 4 a1), .int (4 : Int32)]) (rest := []) ⟨hx, hb, hml, hown, hts⟩ (c0_number l a0 a1 (4 : Int32) ha0 ha1 q4) ⟨va_cnB 2 hts gX5_minuteAgrees_X0_number_n324 rfl rfl rfl (nm_16 hN) (hts (.initialized RX0) (by decide +kernel)) (by decide +kernel) ⟨Nat.le_of_ble_eq_true rfl, Nat.le_of_ble_eq_true rfl⟩, hts (.instanceMethod yX0_number) (by decide +kernel), hts (.selects RX0 yX0_number yX0_number) (by decide +kernel)⟩ (k_preV hW hK hN ha0 (EE_0 cA ad S P M a0) rfl) rfl rfl hl.1 rfl (lv_room (Nat.le_of_ble_eq_true rfl)) dX5_minuteAgrees_10 ⟨Nat.le_of_ble_eq_true rfl, Nat.le_of_ble_eq_true rfl⟩) hS ?_
  clear hW hS; intro H locs hW hS
  by_cases hn0 : v3 = 0
  · replace hF := it_t hF hn0
    refine lv_tableIn (off := 55) (tgt := 68) hx hb dX5_minuteAgrees_13 (by rw [hn0]; decide) (by rw [hn0]; decide) (by rw [hn0]; rfl) (by decide) ?_
    refine lv_iload_n hx hb dX5_minuteAgrees_68 rfl (lv_at hl 0 rfl) ?_
    refine lv_iconst (v := (-1 : Int32)) hx hb dX5_minuteAgrees_69 (by decide) ?_
    refine lv_icmp_ne (tgt := 77) hx hb dX5_minuteAgrees_70 (by decide) (fun hc => ?_) (fun hc => ?_)
    · replace hF := it_f hF hc
      refine lv_iconst (v := (0 : Int32)) hx hb dX5_minuteAgrees_77 (by decide) ?_
      have hq1 := Option.some.inj hF
      subst hq1
      exact e_z hx hb hr hlk hK hN hW hS (by decide) dX5_minuteAgrees_78
    · replace hF := it_t hF hc
      refine lv_iconst (v := (1 : Int32)) hx hb dX5_minuteAgrees_73 (by decide) ?_
      refine lv_goto (tgt := 78) hx hb dX5_minuteAgrees_74 (by decide) ?_
      have hq1 := Option.some.inj hF
      subst hq1
      exact e_z hx hb hr hlk hK hN hW hS (by decide) dX5_minuteAgrees_78
  · replace hF := it_f hF hn0
    by_cases hn1 : v3 = 1
    · replace hF := it_t hF hn1
      refine lv_tableIn (off := 47) (tgt := 60) hx hb dX5_minuteAgrees_13 (by rw [hn1]; decide) (by rw [hn1]; decide) (by rw [hn1]; rfl) (by decide) ?_
      refine lv_iload_n hx hb dX5_minuteAgrees_60 rfl (lv_at hl 0 rfl) ?_
      refine lv_iconst (v := (0 : Int32)) hx hb dX5_minuteAgrees_61 (by decide) ?_
      refine lv_ldc (v := (200000 : Int32)) hx hb hown (hts (.constant RX5 121 (200000)) (by decide +kernel)) dX5_minuteAgrees_62 ?_
      replace hF := ob hF
      obtain ⟨v5, q6, hF⟩ := hF
      refine k_i (va_runS (As := [.int v1, .int (0 : Int32), .int (200000 : Int32)]) (rest := []) ⟨hx, hb, hml, hown, hts⟩ (c5_within l v1 (0 : Int32) (200000 : Int32) q6) (va_cwS 3 hts gX5_minuteAgrees_X5_within rfl rfl rfl (by decide +kernel) ⟨Nat.le_of_ble_eq_true rfl, Nat.le_of_ble_eq_true rfl⟩) (k_preS hW hK hN) rfl rfl hl.1 rfl (lv_room (Nat.le_of_ble_eq_true rfl)) dX5_minuteAgrees_64 ⟨Nat.le_of_ble_eq_true rfl, Nat.le_of_ble_eq_true rfl⟩) hS ?_
      clear hW hS; intro H locs hW hS
      replace hF := it_ok hF
      obtain ⟨hz7, hF⟩ := hF
      have hq1 := Option.some.inj hF
      subst hq1
      exact e_z hx hb hr hlk hK hN hW hS hz7 dX5_minuteAgrees_67
    · replace hF := it_f hF hn1
      by_cases hn2 : v3 = 2
      · replace hF := it_t hF hn2
        refine lv_tableIn (off := 47) (tgt := 60) hx hb dX5_minuteAgrees_13 (by rw [hn2]; decide) (by rw [hn2]; decide) (by rw [hn2]; rfl) (by decide) ?_
        refine lv_iload_n hx hb dX5_minuteAgrees_60 rfl (lv_at hl 0 rfl) ?_
        refine lv_iconst (v := (0 : Int32)) hx hb dX5_minuteAgrees_61 (by decide) ?_
        refine lv_ldc (v := (200000 : Int32)) hx hb hown (hts (.constant RX5 121 (200000)) (by decide +kernel)) dX5_minuteAgrees_62 ?_
        replace hF := ob hF
        obtain ⟨v8, q9, hF⟩ := hF
        refine k_i (va_runS (As := [.int v1, .int (0 : Int32), .int (200000 : Int32)]) (rest := []) ⟨hx, hb, hml, hown, hts⟩ (c5_within l v1 (0 : Int32) (200000 : Int32) q9) (va_cwS 3 hts gX5_minuteAgrees_X5_within rfl rfl rfl (by decide +kernel) ⟨Nat.le_of_ble_eq_true rfl, Nat.le_of_ble_eq_true rfl⟩) (k_preS hW hK hN) rfl rfl hl.1 rfl (lv_room (Nat.le_of_ble_eq_true rfl)) dX5_minuteAgrees_64 ⟨Nat.le_of_ble_eq_true rfl, Nat.le_of_ble_eq_true rfl⟩) hS ?_
        clear hW hS; intro H locs hW hS
        replace hF := it_ok hF
        obtain ⟨hz10, hF⟩ := hF
        have hq1 := Option.some.inj hF
        subst hq1
        exact e_z hx hb hr hlk hK hN hW hS hz10 dX5_minuteAgrees_67
      · replace hF := it_f hF hn2
        by_cases hn3 : v3 = 3
        · replace hF := it_t hF hn3
          refine lv_tableIn (off := 47) (tgt := 60) hx hb dX5_minuteAgrees_13 (by rw [hn3]; decide) (by rw [hn3]; decide) (by rw [hn3]; rfl) (by decide) ?_
          refine lv_iload_n hx hb dX5_minuteAgrees_60 rfl (lv_at hl 0 rfl) ?_
          refine lv_iconst (v := (0 : Int32)) hx hb dX5_minuteAgrees_61 (by decide) ?_
          refine lv_ldc (v := (200000 : Int32)) hx hb hown (hts (.constant RX5 121 (200000)) (by decide +kernel)) dX5_minuteAgrees_62 ?_
          replace hF := ob hF
          obtain ⟨v11, q12, hF⟩ := hF
          refine k_i (va_runS (As := [.int v1, .int (0 : Int32), .int (200000 : Int32)]) (rest := []) ⟨hx, hb, hml, hown, hts⟩ (c5_within l v1 (0 : Int32) (200000 : Int32) q12) (va_cwS 3 hts gX5_minuteAgrees_X5_within rfl rfl rfl (by decide +kernel) ⟨Nat.le_of_ble_eq_true rfl, Nat.le_of_ble_eq_true rfl⟩) (k_preS hW hK hN) rfl rfl hl.1 rfl (lv_room (Nat.le_of_ble_eq_true rfl)) dX5_minuteAgrees_64 ⟨Nat.le_of_ble_eq_true rfl, Nat.le_of_ble_eq_true rfl⟩) hS ?_
          clear hW hS; intro H locs hW hS
          replace hF := it_ok hF
          obtain ⟨hz13, hF⟩ := hF
          have hq1 := Option.some.inj hF
          subst hq1
          exact e_z hx hb hr hlk hK hN hW hS hz13 dX5_minuteAgrees_67
        · replace hF := it_f hF hn3
          by_cases hn4 : v3 = 4
          · replace hF := it_t hF hn4
            refine lv_tableIn (off := 47) (tgt := 60) hx hb dX5_minuteAgrees_13 (by rw [hn4]; decide) (by rw [hn4]; decide) (by rw [hn4]; rfl) (by decide) ?_
            refine lv_iload_n hx hb dX5_minuteAgrees_60 rfl (lv_at hl 0 rfl) ?_
            refine lv_iconst (v := (0 : Int32)) hx hb dX5_minuteAgrees_61 (by decide) ?_
            refine lv_ldc (v := (200000 : Int32)) hx hb hown (hts (.constant RX5 121 (200000)) (by decide +kernel)) dX5_minuteAgrees_62 ?_
            replace hF := ob hF
            obtain ⟨v14, q15, hF⟩ := hF
            refine k_i (va_runS (As := [.int v1, .int (0 : Int32), .int (200000 : Int32)]) (rest := []) ⟨hx, hb, hml, hown, hts⟩ (c5_within l v1 (0 : Int32) (200000 : Int32) q15) (va_cwS 3 hts gX5_minuteAgrees_X5_within rfl rfl rfl (by decide +kernel) ⟨Nat.le_of_ble_eq_true rfl, Nat.le_of_ble_eq_true rfl⟩) (k_preS hW hK hN) rfl rfl hl.1 rfl (lv_room (Nat.le_of_ble_eq_true rfl)) dX5_minuteAgrees_64 ⟨Nat.le_of_ble_eq_true rfl, Nat.le_of_ble_eq_true rfl⟩) hS ?_
            clear hW hS; intro H locs hW hS
            replace hF := it_ok hF
            obtain ⟨hz16, hF⟩ := hF
            have hq1 := Option.some.inj hF
            subst hq1
            exact e_z hx hb hr hlk hK hN hW hS hz16 dX5_minuteAgrees_67
          · replace hF := it_f hF hn4
            by_cases hn5 : v3 = 5
            · replace hF := it_t hF hn5
              refine lv_tableIn (off := 66) (tgt := 79) hx hb dX5_minuteAgrees_13 (by rw [hn5]; decide) (by rw [hn5]; decide) (by rw [hn5]; rfl) (by decide) ?_
              refine lv_iconst (v := (1 : Int32)) hx hb dX5_minuteAgrees_79 (by decide) ?_
              have hq1 := Option.some.inj hF
              subst hq1
              exact e_z hx hb hr hlk hK hN hW hS (by decide) dX5_minuteAgrees_80
            · replace hF := it_f hF hn5
              by_cases hn6 : v3 = 6
              · replace hF := it_t hF hn6
                refine lv_tableIn (off := 47) (tgt := 60) hx hb dX5_minuteAgrees_13 (by rw [hn6]; decide) (by rw [hn6]; decide) (by rw [hn6]; rfl) (by decide) ?_
                refine lv_iload_n hx hb dX5_minuteAgrees_60 rfl (lv_at hl 0 rfl) ?_
                refine lv_iconst (v := (0 : Int32)) hx hb dX5_minuteAgrees_61 (by decide) ?_
                refine lv_ldc (v := (200000 : Int32)) hx hb hown (hts (.constant RX5 121 (200000)) (by decide +kernel)) dX5_minuteAgrees_62 ?_
                replace hF := ob hF
                obtain ⟨v17, q18, hF⟩ := hF
                refine k_i (va_runS (As := [.int v1, .int (0 : Int32), .int (200000 : Int32)]) (rest := []) ⟨hx, hb, hml, hown, hts⟩ (c5_within l v1 (0 : Int32) (200000 : Int32) q18) (va_cwS 3 hts gX5_minuteAgrees_X5_within rfl rfl rfl (by decide +kernel) ⟨Nat.le_of_ble_eq_true rfl, Nat.le_of_ble_eq_true rfl⟩) (k_preS hW hK hN) rfl rfl hl.1 rfl (lv_room (Nat.le_of_ble_eq_true rfl)) dX5_minuteAgrees_64 ⟨Nat.le_of_ble_eq_true rfl, Nat.le_of_ble_eq_true rfl⟩) hS ?_
                clear hW hS; intro H locs hW hS
                replace hF := it_ok hF
                obtain ⟨hz19, hF⟩ := hF
                have hq1 := Option.some.inj hF
                subst hq1
                exact e_z hx hb hr hlk hK hN hW hS hz19 dX5_minuteAgrees_67
              · replace hF := it_f hF hn6
                by_cases hn7 : v3 = 7
                · replace hF := it_t hF hn7
                  refine lv_tableIn (off := 55) (tgt := 68) hx hb dX5_minuteAgrees_13 (by rw [hn7]; decide) (by rw [hn7]; decide) (by rw [hn7]; rfl) (by decide) ?_
                  refine lv_iload_n hx hb dX5_minuteAgrees_68 rfl (lv_at hl 0 rfl) ?_
                  refine lv_iconst (v := (-1 : Int32)) hx hb dX5_minuteAgrees_69 (by decide) ?_
                  refine lv_icmp_ne (tgt := 77) hx hb dX5_minuteAgrees_70 (by decide) (fun hc => ?_) (fun hc => ?_)
                  · replace hF := it_f hF hc
                    refine lv_iconst (v := (0 : Int32)) hx hb dX5_minuteAgrees_77 (by decide) ?_
                    have hq1 := Option.some.inj hF
                    subst hq1
                    exact e_z hx hb hr hlk hK hN hW hS (by decide) dX5_minuteAgrees_78
                  · replace hF := it_t hF hc
                    refine lv_iconst (v := (1 : Int32)) hx hb dX5_minuteAgrees_73 (by decide) ?_
                    refine lv_goto (tgt := 78) hx hb dX5_minuteAgrees_74 (by decide) ?_
                    have hq1 := Option.some.inj hF
                    subst hq1
                    exact e_z hx hb hr hlk hK hN hW hS (by decide) dX5_minuteAgrees_78
                · replace hF := it_f hF hn7
                  have hq0 := sw_ne hn0 (n := 0) (by decide)
                  have hq1 := sw_ne hn1 (n := 1) (by decide)
                  have hq2 := sw_ne hn2 (n := 2) (by decide)
                  have hq3 := sw_ne hn3 (n := 3) (by decide)
                  have hq4 := sw_ne hn4 (n := 4) (by decide)
                  have hq5 := sw_ne hn5 (n := 5) (by decide)
                  have hq6 := sw_ne hn6 (n := 6) (by decide)
                  have hq7 := sw_ne hn7 (n := 7) (by decide)
                  refine lv_tableOut (tgt := 79) hx hb dX5_minuteAgrees_13 (by omega) (by decide) ?_
                  refine lv_iconst (v := (1 : Int32)) hx hb dX5_minuteAgrees_79 (by decide) ?_
                  have hq1 := Option.some.inj hF
                  subst hq1
                  exact e_z hx hb hr hlk hK hN hW hS (by decide) dX5_minuteAgrees_80

set_option maxHeartbeats 4000000 in
set_option maxRecDepth 100000 in
theorem c5_minuteAgrees (l : Launch) {D : va_G} {cA : Nat → ClassId} {z : Nat} {ad : Nat → Nat → Nat} {N : TN} {S : TS} {P : TP} {M : TS} (a0 : Nat) (a1 : Nat) (ha0 : a0 < N 0) (ha1 : a1 < N 4) {v : Int32} (hF : f5_minuteAgrees S P a0 a1 = some v) : Met l yX5_minuteAgrees wsX5_minuteAgrees rm5_minuteAgrees (va_Pc [.ref (ad 0 a0), .ref (ad 4 a1)] (Wl D cA z (ad, N, S, P, M))) (Qi D cA z v (ad, N, S, P, M)) 0 0 (fun q => z ≤ q) := by
  refine Met.ofW (cc := cX5_minuteAgrees) (maxL := 3) (ret := (some .boolean)) (by decide) rfl ?_
  intro p e s m args below meth c s₁ B hml hv
  obtain ⟨rfl, hW, hK, hN⟩ := hv
  have hl := lv_entry ([.ref (ad 0 a0), .ref (ad 4 a1)]) (n := 3) (Nat.le_of_ble_eq_true rfl)
  rw [lg_entry_eq]
  generalize (lg_sl ([.ref (ad 0 a0), .ref (ad 4 a1)]) ++ List.replicate (3 - (lg_sl ([.ref (ad 0 a0), .ref (ad 4 a1)])).length) Slot.unset).toArray = ls at hl ⊢
  exact w5_minuteAgrees ⟨B.exec, B.bytes, B.returns, hml, findClass_of_methodNamed B.named, atoms_spec (ws := wsX5_minuteAgrees) B.pre, B.notSynchronized⟩ hK hN a0 a1 ha0 ha1 hF hW va_S.rf hl

-- 5 moneyAgrees
abbrev rm5_moneyAgrees : Room := { frames := 2, cells := 0, slots := 0, locals := 44 }
def f5_moneyAgrees (S : TS) (P : TP) (a0 : Nat) (a1 : Nat) : Option (Int32) :=
  (f0_number S P a0 a1 (4 : Int32)).bind fun (v1 : Int32) =>
  (f0_number S P a0 a1 (10 : Int32)).bind fun (v3 : Int32) =>
  lt (fun (k5 : Int32) => ((f5_within v1 (0 : Int32) (7 : Int32)).bind fun (v6 : Int32) =>
  if v6 = 0 then
  (some (0 : Int32))
  else
  (if v3 < (500 : Int32) then
  (some (0 : Int32))
  else
  ((f0_number S P a0 a1 (11 : Int32)).bind fun (v8 : Int32) =>
  if v8 = k5 then
  (some (1 : Int32))
  else
  (some (0 : Int32)))))) fun (K40 : Int32 → Option (Int32)) =>
  if v1 = (5 : Int32) then
  (K40 v3)
  else
  (if v1 = (7 : Int32) then
  (K40 (v3 / (2 : Int32)))
  else
  (K40 (0 : Int32)))
set_option maxHeartbeats 4000000 in
set_option maxRecDepth 100000 in
theorem w5_moneyAgrees {p : Program} {l : Launch} {e : Env} {s : State} {m : MethodId} {args : Array Value} {below : List Frame} {meth : Method} {c : Code} (C : MC p s m args meth c cX5_moneyAgrees (some .boolean) 5 RX5 wsX5_moneyAgrees) {D : va_G} {cA : Nat → ClassId} {z : Nat} {ad : Nat → Nat → Nat} {N : TN} (hK : va_K D vwCl (tysW cA) s) (hN : NW s) {S : TS} {P : TP} {M : TS} (a0 : Nat) (a1 : Nat) (ha0 : a0 < N 0) (ha1 : a1 < N 4) {v : Int32} (hF : f5_moneyAgrees S P a0 a1 = some v)
    {H : Heap} {ls : Array Slot} (hW : Wd D cA z ad N S P M H) {locs : List Loc} (hS : va_S (fun q => z ≤ q) s.heap H locs) (hl : lv_has ls 5 [(0, .ref (ad 0 a0)), (1, .ref (ad 4 a1))]) : W p l e rm5_moneyAgrees s m args below meth c H locs 0 0 (MQ below (Qi D cA z v (ad, N, S, P, M)) args s 0 0 (fun q => z ≤ q)) (F0 m 0 ls []) := by
  obtain ⟨hx, hb, hr, hml, hown, hts, hlk⟩ := id C
  unfold f5_moneyAgrees at hF
  refine lv_aload_n hx hb dX5_moneyAgrees_0 rfl (lv_at hl 0 rfl) ?_
  refine lv_aload_n hx hb dX5_moneyAgrees_1 rfl (lv_at hl 1 rfl) ?_
  refine lv_iconst (v := (4 : Int32)) hx hb dX5_moneyAgrees_2 (by decide) ?_
  replace hF := ob hF
  obtain ⟨v1, q2, hF⟩ := hF
  refine k_i (va_runVN (C := RX0) (As := [.ref (ad 4 a1), .int (4 : Int32)]) (rest := []) ⟨hx, hb, hml, hown, hts⟩ (c0_number l a0 a1 (4 : Int32) ha0 ha1 q2) ⟨va_cnB 2 hts gX5_moneyAgrees_X0_number_n324 rfl rfl rfl (nm_16 hN) (hts (.initialized RX0) (by decide +kernel)) (by decide +kernel) ⟨Nat.le_of_ble_eq_true rfl, Nat.le_of_ble_eq_true rfl⟩, hts (.instanceMethod yX0_number) (by decide +kernel), hts (.selects RX0 yX0_number yX0_number) (by decide +kernel)⟩ (k_preV hW hK hN ha0 (EE_0 cA ad S P M a0) rfl) rfl rfl hl.1 rfl (lv_room (Nat.le_of_ble_eq_true rfl)) dX5_moneyAgrees_3 ⟨Nat.le_of_ble_eq_true rfl, Nat.le_of_ble_eq_true rfl⟩) hS ?_
  clear hW hS; intro H locs hW hS
  refine lv_istore_n (lv' := [(2, .int v1), (0, .ref (ad 0 a0)), (1, .ref (ad 4 a1))]) hx hb dX5_moneyAgrees_6 rfl hl (by decide) rfl ?_
  clear hl; intro ls hl
  refine lv_aload_n hx hb dX5_moneyAgrees_7 rfl (lv_at hl 1 rfl) ?_
  refine lv_aload_n hx hb dX5_moneyAgrees_8 rfl (lv_at hl 2 rfl) ?_
  refine lv_bipush (v := (10 : Int32)) hx hb dX5_moneyAgrees_9 (by decide) ?_
  replace hF := ob hF
  obtain ⟨v3, q4, hF⟩ := hF
  refine k_i (va_runVN (C := RX0) (As := [.ref (ad 4 a1), .int (10 : Int32)]) (rest := []) ⟨hx, hb, hml, hown, hts⟩ (c0_number l a0 a1 (10 : Int32) ha0 ha1 q4) ⟨va_cnB 2 hts gX5_moneyAgrees_X0_number_n324 rfl rfl rfl (nm_16 hN) (hts (.initialized RX0) (by decide +kernel)) (by decide +kernel) ⟨Nat.le_of_ble_eq_true rfl, Nat.le_of_ble_eq_true rfl⟩, hts (.instanceMethod yX0_number) (by decide +kernel), hts (.selects RX0 yX0_number yX0_number) (by decide +kernel)⟩ (k_preV hW hK hN ha0 (EE_0 cA ad S P M a0) rfl) rfl rfl hl.1 rfl (lv_room (Nat.le_of_ble_eq_true rfl)) dX5_moneyAgrees_11 ⟨Nat.le_of_ble_eq_true rfl, Nat.le_of_ble_eq_true rfl⟩) hS ?_
  clear hW hS; intro H locs hW hS
  refine lv_istore_n (lv' := [(3, .int v3), (2, .int v1), (0, .ref (ad 0 a0)), (1, .ref (ad 4 a1))]) hx hb dX5_moneyAgrees_14 rfl hl (by decide) rfl ?_
  clear hl; intro ls hl
  refine lv_iconst (v := (0 : Int32)) hx hb dX5_moneyAgrees_15 (by decide) ?_
  refine lv_istore (lv' := [(4, .int (0 : Int32)), (3, .int v3), (2, .int v1), (0, .ref (ad 0 a0)), (1, .ref (ad 4 a1))]) hx hb dX5_moneyAgrees_16 hl (by decide) rfl ?_
  clear hl; intro ls hl
  refine lv_iload_n hx hb dX5_moneyAgrees_18 rfl (lv_at hl 2 rfl) ?_
  refine lv_iconst (v := (5 : Int32)) hx hb dX5_moneyAgrees_19 (by decide) ?_
  replace hF := lt_ex hF
  obtain ⟨K40, eK40, hF⟩ := hF
  have hK40 : ∀ (k5 : Int32) (H : Heap) (locs : List Loc) (ls : Array Slot), K40 k5 = some v → Wd D cA z ad N S P M H → va_S (fun q => z ≤ q) s.heap H locs → lv_has ls 5 [(0, .ref (ad 0 a0)), (1, .ref (ad 4 a1)), (2, .int v1), (3, .int v3), (4, .int k5)] → W p l e rm5_moneyAgrees s m args below meth c H locs 0 0 (MQ below (Qi D cA z v (ad, N, S, P, M)) args s 0 0 (fun q => z ≤ q)) (F0 m 40 ls []) := by
    intro k5 H locs ls hF hW hS hl
    subst eK40
    refine lv_iload_n hx hb dX5_moneyAgrees_40 rfl (lv_at hl 2 rfl) ?_
    refine lv_iconst (v := (0 : Int32)) hx hb dX5_moneyAgrees_41 (by decide) ?_
    refine lv_bipush (v := (7 : Int32)) hx hb dX5_moneyAgrees_42 (by decide) ?_
    replace hF := ob hF
    obtain ⟨v6, q7, hF⟩ := hF
    refine k_i (va_runS (As := [.int v1, .int (0 : Int32), .int (7 : Int32)]) (rest := []) ⟨hx, hb, hml, hown, hts⟩ (c5_within l v1 (0 : Int32) (7 : Int32) q7) (va_cwS 3 hts gX5_moneyAgrees_X5_within rfl rfl rfl (by decide +kernel) ⟨Nat.le_of_ble_eq_true rfl, Nat.le_of_ble_eq_true rfl⟩) (k_preS hW hK hN) rfl rfl hl.1 rfl (lv_room (Nat.le_of_ble_eq_true rfl)) dX5_moneyAgrees_44 ⟨Nat.le_of_ble_eq_true rfl, Nat.le_of_ble_eq_true rfl⟩) hS ?_
    clear hW hS; intro H locs hW hS
    refine lv_if_eq (tgt := 73) hx hb dX5_moneyAgrees_47 (by decide) (fun hc => ?_) (fun hc => ?_)
    · replace hF := it_t hF hc
      refine lv_iconst (v := (0 : Int32)) hx hb dX5_moneyAgrees_73 (by decide) ?_
      have hq1 := Option.some.inj hF
      subst hq1
      exact e_z hx hb hr hlk hK hN hW hS (by decide) dX5_moneyAgrees_74
    · replace hF := it_f hF hc
      refine lv_iload_n hx hb dX5_moneyAgrees_50 rfl (lv_at hl 3 rfl) ?_
      refine lv_sipush (v := (500 : Int32)) hx hb dX5_moneyAgrees_51 (by decide) ?_
      refine lv_icmp_lt (tgt := 73) hx hb dX5_moneyAgrees_54 (by decide) (fun hc => ?_) (fun hc => ?_)
      · replace hF := it_t hF hc
        refine lv_iconst (v := (0 : Int32)) hx hb dX5_moneyAgrees_73 (by decide) ?_
        have hq1 := Option.some.inj hF
        subst hq1
        exact e_z hx hb hr hlk hK hN hW hS (by decide) dX5_moneyAgrees_74
      · replace hF := it_f hF hc
        refine lv_aload_n hx hb dX5_moneyAgrees_57 rfl (lv_at hl 0 rfl) ?_
        refine lv_aload_n hx hb dX5_moneyAgrees_58 rfl (lv_at hl 1 rfl) ?_
        refine lv_bipush (v := (11 : Int32)) hx hb dX5_moneyAgrees_59 (by decide) ?_
        replace hF := ob hF
        obtain ⟨v8, q9, hF⟩ := hF
        refine k_i (va_runVN (C := RX0) (As := [.ref (ad 4 a1), .int (11 : Int32)]) (rest := []) ⟨hx, hb, hml, hown, hts⟩ (c0_number l a0 a1 (11 : Int32) ha0 ha1 q9) ⟨va_cnB 2 hts gX5_moneyAgrees_X0_number_n324 rfl rfl rfl (nm_16 hN) (hts (.initialized RX0) (by decide +kernel)) (by decide +kernel) ⟨Nat.le_of_ble_eq_true rfl, Nat.le_of_ble_eq_true rfl⟩, hts (.instanceMethod yX0_number) (by decide +kernel), hts (.selects RX0 yX0_number yX0_number) (by decide +kernel)⟩ (k_preV hW hK hN ha0 (EE_0 cA ad S P M a0) rfl) rfl rfl hl.1 rfl (lv_room (Nat.le_of_ble_eq_true rfl)) dX5_moneyAgrees_61 ⟨Nat.le_of_ble_eq_true rfl, Nat.le_of_ble_eq_true rfl⟩) hS ?_
        clear hW hS; intro H locs hW hS
        refine lv_iload hx hb dX5_moneyAgrees_64 (lv_at hl 4 rfl) ?_
        refine lv_icmp_ne (tgt := 73) hx hb dX5_moneyAgrees_66 (by decide) (fun hc => ?_) (fun hc => ?_)
        · replace hF := it_f hF hc
          refine lv_iconst (v := (0 : Int32)) hx hb dX5_moneyAgrees_73 (by decide) ?_
          have hq1 := Option.some.inj hF
          subst hq1
          exact e_z hx hb hr hlk hK hN hW hS (by decide) dX5_moneyAgrees_74
        · replace hF := it_t hF hc
          refine lv_iconst (v := (1 : Int32)) hx hb dX5_moneyAgrees_69 (by decide) ?_
          refine lv_goto (tgt := 74) hx hb dX5_moneyAgrees_70 (by decide) ?_
          have hq1 := Option.some.inj hF
          subst hq1
          exact e_z hx hb hr hlk hK hN hW hS (by decide) dX5_moneyAgrees_74
  clear eK40
  refine lv_icmp_ne (tgt := 29) hx hb dX5_moneyAgrees_20 (by decide) (fun hc => ?_) (fun hc => ?_)
  · replace hF := it_f hF hc
    refine lv_iload_n hx hb dX5_moneyAgrees_29 rfl (lv_at hl 2 rfl) ?_
    refine lv_bipush (v := (7 : Int32)) hx hb dX5_moneyAgrees_30 (by decide) ?_
    refine lv_icmp_ne (tgt := 40) hx hb dX5_moneyAgrees_32 (by decide) (fun hc => ?_) (fun hc => ?_)
    · replace hF := it_f hF hc
      exact hK40 (0 : Int32) _ _ _ hF hW hS (lv_sub hl [3, 4, 2, 1, 0] rfl)
    · replace hF := it_t hF hc
      refine lv_iload_n hx hb dX5_moneyAgrees_35 rfl (lv_at hl 1 rfl) ?_
      refine lv_iconst (v := (2 : Int32)) hx hb dX5_moneyAgrees_36 (by decide) ?_
      refine lv_idiv hx hb dX5_moneyAgrees_37 (by decide) ?_
      refine lv_istore (lv' := [(4, .int (v3 / (2 : Int32))), (3, .int v3), (2, .int v1), (0, .ref (ad 0 a0)), (1, .ref (ad 4 a1))]) hx hb dX5_moneyAgrees_38 hl (by decide) rfl ?_
      clear hl; intro ls hl
      exact hK40 (v3 / (2 : Int32)) _ _ _ hF hW hS (lv_sub hl [3, 4, 2, 1, 0] rfl)
  · replace hF := it_t hF hc
    refine lv_iload_n hx hb dX5_moneyAgrees_23 rfl (lv_at hl 1 rfl) ?_
    refine lv_istore (lv' := [(4, .int v3), (3, .int v3), (2, .int v1), (0, .ref (ad 0 a0)), (1, .ref (ad 4 a1))]) hx hb dX5_moneyAgrees_24 hl (by decide) rfl ?_
    clear hl; intro ls hl
    refine lv_goto (tgt := 40) hx hb dX5_moneyAgrees_26 (by decide) ?_
    exact hK40 v3 _ _ _ hF hW hS (lv_sub hl [3, 4, 2, 1, 0] rfl)

set_option maxHeartbeats 4000000 in
set_option maxRecDepth 100000 in
theorem c5_moneyAgrees (l : Launch) {D : va_G} {cA : Nat → ClassId} {z : Nat} {ad : Nat → Nat → Nat} {N : TN} {S : TS} {P : TP} {M : TS} (a0 : Nat) (a1 : Nat) (ha0 : a0 < N 0) (ha1 : a1 < N 4) {v : Int32} (hF : f5_moneyAgrees S P a0 a1 = some v) : Met l yX5_moneyAgrees wsX5_moneyAgrees rm5_moneyAgrees (va_Pc [.ref (ad 0 a0), .ref (ad 4 a1)] (Wl D cA z (ad, N, S, P, M))) (Qi D cA z v (ad, N, S, P, M)) 0 0 (fun q => z ≤ q) := by
  refine Met.ofW (cc := cX5_moneyAgrees) (maxL := 5) (ret := (some .boolean)) (by decide) rfl ?_
  intro p e s m args below meth c s₁ B hml hv
  obtain ⟨rfl, hW, hK, hN⟩ := hv
  have hl := lv_entry ([.ref (ad 0 a0), .ref (ad 4 a1)]) (n := 5) (Nat.le_of_ble_eq_true rfl)
  rw [lg_entry_eq]
  generalize (lg_sl ([.ref (ad 0 a0), .ref (ad 4 a1)]) ++ List.replicate (5 - (lg_sl ([.ref (ad 0 a0), .ref (ad 4 a1)])).length) Slot.unset).toArray = ls at hl ⊢
  exact w5_moneyAgrees ⟨B.exec, B.bytes, B.returns, hml, findClass_of_methodNamed B.named, atoms_spec (ws := wsX5_moneyAgrees) B.pre, B.notSynchronized⟩ hK hN a0 a1 ha0 ha1 hF hW va_S.rf hl

