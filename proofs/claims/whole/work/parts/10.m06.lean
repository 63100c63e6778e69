-- 5 open
abbrev rm5_open : Room := { frames := 2, cells := 0, slots := 0, locals := 43 }
def f5_open (S : TS) (P : TP) (a1 : Int32) : Option (Int32 × TS × TP) :=
  (f5_sailingNumbered S P a1).bind fun (r1 : Option Nat) =>
  r1.elim (some ((0 : Int32), S, P))
  (fun (t3 : Nat) => if (S 204 t3) = 0 then
  (lt (P 201 t3 0) fun (r4 : Option Nat) =>
  r4.bind fun (t5 : Nat) =>
  (f5_hasOpenSailing S P t5).bind fun (v6 : Int32) =>
  if v6 = 0 then
  (lt (up S 204 t3 (1 : Int32)) fun (S8 : TS) =>
  some ((1 : Int32), S8, P))
  else
  (some ((0 : Int32), S, P)))
  else
  (some ((0 : Int32), S, P)))
set_option maxRecDepth 20000 in
theorem hi5_open_2 : ∀ w ∈ u_ws RX2 TX2 9, w ∈ wsX5_open := by decide +kernel
set_option maxHeartbeats 4000000 in
set_option maxRecDepth 100000 in
theorem w5_open {p : Program} {l : Launch} {e : Env} {s : State} {m : MethodId} {args : Array Value} {below : List Frame} {meth : Method} {c : Code} (C : MC p s m args meth c cX5_open (some .boolean) 3 RX5 wsX5_open) {D : va_G} {cA : Nat → ClassId} {z : Nat} {ad : Nat → Nat → Nat} {N : TN} (hK : va_K D vwCl (tysW cA) s) (hN : NW s) {S : TS} {P : TP} {M : TS} (a1 : Int32) {v : Int32} {S' : TS} {P' : TP} (hF : f5_open S P a1 = some (v, S', P'))
    {H : Heap} {ls : Array Slot} (hW : Wd D cA z ad N S P M H) {locs : List Loc} (hS : va_S (fun q => z ≤ q) s.heap H locs) (hl : lv_has ls 3 [(0, .ref (ad 5 0)), (1, .int a1)]) : W p l e rm5_open s m args below meth c H locs 0 0 (MQ below (Qi D cA z v (ad, N, S', P', M)) args s 0 0 (fun q => z ≤ q)) (F0 m 0 ls []) := by
  obtain ⟨hx, hb, hr, hml, hown, hts, hlk⟩ := id C
  unfold f5_open at hF
  refine lv_aload_n hx hb dX5_open_0 rfl (lv_at hl 0 rfl) ?_
  refine lv_iload_n hx hb dX5_open_1 rfl (lv_at hl 1 rfl) ?_
  replace hF := ob hF
  obtain ⟨r1, q2, hF⟩ := hF
  refine k_q (va_runV (As := [.int a1]) (rest := []) ⟨hx, hb, hml, hown, hts⟩ (c5_sailingNumbered l a1 q2) (cwV 1 hts gX5_open_X5_sailingNumbered rfl rfl rfl (by decide +kernel) ⟨Nat.le_of_ble_eq_true rfl, Nat.le_of_ble_eq_true rfl⟩) (k_preV hW hK hN (hW.fx 5 rfl) (EE_5 cA ad S P M 0) rfl) rfl rfl hl.1 rfl (lv_room (Nat.le_of_ble_eq_true rfl)) dX5_open_2 ⟨Nat.le_of_ble_eq_true rfl, Nat.le_of_ble_eq_true rfl⟩) hS (fun H locs hW hS hr1 => ?_)
  refine q_astore_n (lv' := [(2, va_rf (r1.map (ad 2))), (0, .ref (ad 5 0)), (1, .int a1)]) hx hb dX5_open_5 rfl hl (by decide) rfl ?_
  clear hl; intro ls hl
  refine q_aload_n hx hb dX5_open_6 rfl (lv_at hl 0 rfl) ?_
  refine q_ifnull (tgt := 28) hx hb dX5_open_7 (by decide) (fun hc => ?_) (fun t3 hc => ?_)
  · subst hc
    replace hF := el_n hF
    replace hl : lv_has ls 3 [(2, .null), (0, .ref (ad 5 0)), (1, .int a1)] := hl
    refine lv_iconst (v := (0 : Int32)) hx hb dX5_open_28 (by decide) ?_
    obtain ⟨hq1, hq2⟩ := Prod.mk.inj (Option.some.inj hF)
    obtain ⟨hq2, hq3⟩ := Prod.mk.inj hq2
    subst hq1
    subst hq2
    subst hq3
    exact e_z hx hb hr hlk hK hN hW hS (by decide) dX5_open_29
  · subst hc
    replace hF := el_s hF
    have ht3 := hr1 t3 rfl
    replace hl : lv_has ls 3 [(2, .ref (ad 2 t3)), (0, .ref (ad 5 0)), (1, .int a1)] := hl
    refine lv_aload_n hx hb dX5_open_10 rfl (lv_at hl 0 rfl) ?_
    refine gn2_4 hx hb hts hi5_open_2 hown hK hW ht3 (nf_16 hN) dX5_open_11 ?_
    refine lv_if_ne (tgt := 28) hx hb dX5_open_14 (by decide) (fun hc => ?_) (fun hc => ?_)
    · replace hF := it_f hF hc
      refine lv_iconst (v := (0 : Int32)) hx hb dX5_open_28 (by decide) ?_
      obtain ⟨hq1, hq2⟩ := Prod.mk.inj (Option.some.inj hF)
      obtain ⟨hq2, hq3⟩ := Prod.mk.inj hq2
      subst hq1
      subst hq2
      subst hq3
      exact e_z hx hb hr hlk hK hN hW hS (by decide) dX5_open_29
    · replace hF := it_t hF hc
      refine lv_aload_n hx hb dX5_open_17 rfl (lv_at hl 1 rfl) ?_
      refine lv_aload_n hx hb dX5_open_18 rfl (lv_at hl 0 rfl) ?_
      replace hF := lt_ex hF
      obtain ⟨r4, er4, hF⟩ := hF
      have hr4 : ∀ y, r4 = some y → y < N 3 := hW.v er4
      refine gn2_1 hx hb hts hi5_open_2 hown hK hW ht3 er4 (nf_12 hN) dX5_open_19 ?_
      replace hF := ob hF
      obtain ⟨t5, et5, hF⟩ := hF
      subst et5
      have ht5 := hr4 t5 rfl
      replace hF := ob hF
      obtain ⟨v6, q7, hF⟩ := hF
      refine k_i (va_runV (As := [.ref (ad 3 t5)]) (rest := []) ⟨hx, hb, hml, hown, hts⟩ (c5_hasOpenSailing l t5 ht5 q7) (cwV 1 hts gX5_open_X5_hasOpenSailing rfl rfl rfl (by decide +kernel) ⟨Nat.le_of_ble_eq_true rfl, Nat.le_of_ble_eq_true rfl⟩) (k_preV hW hK hN (hW.fx 5 rfl) (EE_5 cA ad S P M 0) rfl) rfl rfl hl.1 rfl (lv_room (Nat.le_of_ble_eq_true rfl)) dX5_open_22 ⟨Nat.le_of_ble_eq_true rfl, Nat.le_of_ble_eq_true rfl⟩) hS ?_
      clear hW hS; intro H locs hW hS
      refine lv_if_eq (tgt := 30) hx hb dX5_open_25 (by decide) (fun hc => ?_) (fun hc => ?_)
      · replace hF := it_t hF hc
        refine lv_aload_n hx hb dX5_open_30 rfl (lv_at hl 0 rfl) ?_
        refine lv_iconst (v := (1 : Int32)) hx hb dX5_open_31 (by decide) ?_
        replace hF := lt_ex hF
        obtain ⟨S8, eS8, hF⟩ := hF
        refine pn2_4 hx hb hts hi5_open_2 hown hK hW hS ht3 eS8 (nf_16 hN) dX5_open_32 ?_
        clear hW hS; intro H locs hW hS
        refine lv_iconst (v := (1 : Int32)) hx hb dX5_open_35 (by decide) ?_
        obtain ⟨hq1, hq2⟩ := Prod.mk.inj (Option.some.inj hF)
        obtain ⟨hq2, hq3⟩ := Prod.mk.inj hq2
        subst hq1
        subst hq2
        subst hq3
        exact e_z hx hb hr hlk hK hN hW hS (by decide) dX5_open_36
      · replace hF := it_f hF hc
        refine lv_iconst (v := (0 : Int32)) hx hb dX5_open_28 (by decide) ?_
        obtain ⟨hq1, hq2⟩ := Prod.mk.inj (Option.some.inj hF)
        obtain ⟨hq2, hq3⟩ := Prod.mk.inj hq2
        subst hq1
        subst hq2
        subst hq3
        exact e_z hx hb hr hlk hK hN hW hS (by decide) dX5_open_29

set_option maxHeartbeats 4000000 in
set_option maxRecDepth 100000 in
theorem c5_open (l : Launch) {D : va_G} {cA : Nat → ClassId} {z : Nat} {ad : Nat → Nat → Nat} {N : TN} {S : TS} {P : TP} {M : TS} (a1 : Int32) {v : Int32} {S' : TS} {P' : TP} (hF : f5_open S P a1 = some (v, S', P')) : Met l yX5_open wsX5_open rm5_open (va_Pc [.ref (ad 5 0), .int a1] (Wl D cA z (ad, N, S, P, M))) (Qi D cA z v (ad, N, S', P', M)) 0 0 (fun q => z ≤ q) := by
  refine Met.ofW (cc := cX5_open) (maxL := 3) (ret := (some .boolean)) (by decide) rfl ?_
  intro p e s m args below meth c s₁ B hml hv
  obtain ⟨rfl, hW, hK, hN⟩ := hv
  have hl := lv_entry ([.ref (ad 5 0), .int a1]) (n := 3) (Nat.le_of_ble_eq_true rfl)
  rw [lg_entry_eq]
  generalize (lg_sl ([.ref (ad 5 0), .int a1]) ++ List.replicate (3 - (lg_sl ([.ref (ad 5 0), .int a1])).length) Slot.unset).toArray = ls at hl ⊢
  exact w5_open ⟨B.exec, B.bytes, B.returns, hml, findClass_of_methodNamed B.named, atoms_spec (ws := wsX5_open) B.pre, B.notSynchronized⟩ hK hN a1 hF hW va_S.rf hl

-- 5 recall
abbrev rm5_recall : Room := { frames := 2, cells := 0, slots := 0, locals := 45 }
def f5_recall (S : TS) (P : TP) (a1 : Int32) (a2 : Int32) : Option (Int32 × TS × TP) :=
  (f5_sailingNumbered S P a1).bind fun (r1 : Option Nat) =>
  r1.elim (some ((0 : Int32), S, P))
  (fun (t3 : Nat) => if (S 204 t3) = (1 : Int32) then
  (if (S 206 t3) = (-1 : Int32) then
  ((f5_within a2 (0 : Int32) (1000 : Int32)).bind fun (v4 : Int32) =>
  if v4 = 0 then
  (some ((0 : Int32), S, P))
  else
  (lt (up S 206 t3 a2) fun (S6 : TS) =>
  b2 (f5_bringRecallOn S6 P t3) fun (S7 : TS) (P8 : TP) =>
  some ((1 : Int32), S7, P8)))
  else
  (some ((0 : Int32), S, P)))
  else
  (some ((0 : Int32), S, P)))
set_option maxRecDepth 20000 in
theorem hi5_recall_2 : ∀ w ∈ u_ws RX2 TX2 9, w ∈ wsX5_recall := by decide +kernel
set_option maxHeartbeats 4000000 in
set_option maxRecDepth 100000 in
theorem w5_recall {p : Program} {l : Launch} {e : Env} {s : State} {m : MethodId} {args : Array Value} {below : List Frame} {meth : Method} {c : Code} (C : MC p s m args meth c cX5_recall (some .boolean) 4 RX5 wsX5_recall) {D : va_G} {cA : Nat → ClassId} {z : Nat} {ad : Nat → Nat → Nat} {N : TN} (hK : va_K D vwCl (tysW cA) s) (hN : NW s) {S : TS} {P : TP} {M : TS} (a1 : Int32) (a2 : Int32) {v : Int32} {S' : TS} {P' : TP} (hF : f5_recall S P a1 a2 = some (v, S', P'))
    {H : Heap} {ls : Array Slot} (hW : Wd D cA z ad N S P M H) {locs : List Loc} (hS : va_S (fun q => z ≤ q) s.heap H locs) (hl : lv_has ls 4 [(0, .ref (ad 5 0)), (1, .int a1), (2, .int a2)]) : W p l e rm5_recall s m args below meth c H locs 0 0 (MQ below (Qi D cA z v (ad, N, S', P', M)) args s 0 0 (fun q => z ≤ q)) (F0 m 0 ls []) := by
  obtain ⟨hx, hb, hr, hml, hown, hts, hlk⟩ := id C
  unfold f5_recall at hF
  refine lv_aload_n hx hb dX5_recall_0 rfl (lv_at hl 0 rfl) ?_
  refine lv_iload_n hx hb dX5_recall_1 rfl (lv_at hl 1 rfl) ?_
  replace hF := ob hF
  obtain ⟨r1, q2, hF⟩ := hF
  refine k_q (va_runV (As := [.int a1]) (rest := []) ⟨hx, hb, hml, hown, hts⟩ (c5_sailingNumbered l a1 q2) (cwV 1 hts gX5_recall_X5_sailingNumbered rfl rfl rfl (by decide +kernel) ⟨Nat.le_of_ble_eq_true rfl, Nat.le_of_ble_eq_true rfl⟩) (k_preV hW hK hN (hW.fx 5 rfl) (EE_5 cA ad S P M 0) rfl) rfl rfl hl.1 rfl (lv_room (Nat.le_of_ble_eq_true rfl)) dX5_recall_2 ⟨Nat.le_of_ble_eq_true rfl, Nat.le_of_ble_eq_true rfl⟩) hS (fun H locs hW hS hr1 => ?_)
  refine q_astore_n (lv' := [(3, va_rf (r1.map (ad 2))), (0, .ref (ad 5 0)), (1, .int a1), (2, .int a2)]) hx hb dX5_recall_5 rfl hl (by decide) rfl ?_
  clear hl; intro ls hl
  refine q_aload_n hx hb dX5_recall_6 rfl (lv_at hl 0 rfl) ?_
  refine q_ifnull (tgt := 37) hx hb dX5_recall_7 (by decide) (fun hc => ?_) (fun t3 hc => ?_)
  · subst hc
    replace hF := el_n hF
    replace hl : lv_has ls 4 [(3, .null), (0, .ref (ad 5 0)), (1, .int a1), (2, .int a2)] := hl
    refine lv_iconst (v := (0 : Int32)) hx hb dX5_recall_37 (by decide) ?_
    obtain ⟨hq1, hq2⟩ := Prod.mk.inj (Option.some.inj hF)
    obtain ⟨hq2, hq3⟩ := Prod.mk.inj hq2
    subst hq1
    subst hq2
    subst hq3
    exact e_z hx hb hr hlk hK hN hW hS (by decide) dX5_recall_38
  · subst hc
    replace hF := el_s hF
    have ht3 := hr1 t3 rfl
    replace hl : lv_has ls 4 [(3, .ref (ad 2 t3)), (0, .ref (ad 5 0)), (1, .int a1), (2, .int a2)] := hl
    refine lv_aload_n hx hb dX5_recall_10 rfl (lv_at hl 0 rfl) ?_
    refine gn2_4 hx hb hts hi5_recall_2 hown hK hW ht3 (nf_16 hN) dX5_recall_11 ?_
    refine lv_iconst (v := (1 : Int32)) hx hb dX5_recall_14 (by decide) ?_
    refine lv_icmp_ne (tgt := 37) hx hb dX5_recall_15 (by decide) (fun hc => ?_) (fun hc => ?_)
    · replace hF := it_f hF hc
      refine lv_iconst (v := (0 : Int32)) hx hb dX5_recall_37 (by decide) ?_
      obtain ⟨hq1, hq2⟩ := Prod.mk.inj (Option.some.inj hF)
      obtain ⟨hq2, hq3⟩ := Prod.mk.inj hq2
      subst hq1
      subst hq2
      subst hq3
      exact e_z hx hb hr hlk hK hN hW hS (by decide) dX5_recall_38
    · replace hF := it_t hF hc
      refine lv_aload_n hx hb dX5_recall_18 rfl (lv_at hl 0 rfl) ?_
      refine gn2_6 hx hb hts hi5_recall_2 hown hK hW ht3 (nf_18 hN) dX5_recall_19 ?_
      refine lv_iconst (v := (-1 : Int32)) hx hb dX5_recall_22 (by decide) ?_
      refine lv_icmp_ne (tgt := 37) hx hb dX5_recall_23 (by decide) (fun hc => ?_) (fun hc => ?_)
      · replace hF := it_f hF hc
        refine lv_iconst (v := (0 : Int32)) hx hb dX5_recall_37 (by decide) ?_
        obtain ⟨hq1, hq2⟩ := Prod.mk.inj (Option.some.inj hF)
        obtain ⟨hq2, hq3⟩ := Prod.mk.inj hq2
        subst hq1
        subst hq2
        subst hq3
        exact e_z hx hb hr hlk hK hN hW hS (by decide) dX5_recall_38
      · replace hF := it_t hF hc
        refine lv_iload_n hx hb dX5_recall_26 rfl (lv_at hl 3 rfl) ?_
        refine lv_iconst (v := (0 : Int32)) hx hb dX5_recall_27 (by decide) ?_
        refine lv_sipush (v := (1000 : Int32)) hx hb dX5_recall_28 (by decide) ?_
        replace hF := ob hF
        obtain ⟨v4, q5, hF⟩ := hF
        refine k_i (va_runS (As := [.int a2, .int (0 : Int32), .int (1000 : Int32)]) (rest := []) ⟨hx, hb, hml, hown, hts⟩ (c5_within l a2 (0 : Int32) (1000 : Int32) q5) (va_cwS 3 hts gX5_recall_X5_within rfl rfl rfl (by decide +kernel) ⟨Nat.le_of_ble_eq_true rfl, Nat.le_of_ble_eq_true rfl⟩) (k_preS hW hK hN) rfl rfl hl.1 rfl (lv_room (Nat.le_of_ble_eq_true rfl)) dX5_recall_31 ⟨Nat.le_of_ble_eq_true rfl, Nat.le_of_ble_eq_true rfl⟩) hS ?_
        clear hW hS; intro H locs hW hS
        refine lv_if_ne (tgt := 39) hx hb dX5_recall_34 (by decide) (fun hc => ?_) (fun hc => ?_)
        · replace hF := it_f hF hc
          refine lv_aload_n hx hb dX5_recall_39 rfl (lv_at hl 0 rfl) ?_
          refine lv_iload_n hx hb dX5_recall_40 rfl (lv_at hl 3 rfl) ?_
          replace hF := lt_ex hF
          obtain ⟨S6, eS6, hF⟩ := hF
          refine pn2_6 hx hb hts hi5_recall_2 hown hK hW hS ht3 eS6 (nf_18 hN) dX5_recall_41 ?_
          clear hW hS; intro H locs hW hS
          refine lv_aload_n hx hb dX5_recall_44 rfl (lv_at hl 1 rfl) ?_
          refine lv_aload_n hx hb dX5_recall_45 rfl (lv_at hl 0 rfl) ?_
          replace hF := ob2 hF
          obtain ⟨S7, P8, q9, hF⟩ := hF
          refine k_v (va_runV (As := [.ref (ad 2 t3)]) (rest := []) ⟨hx, hb, hml, hown, hts⟩ (c5_bringRecallOn l t3 ht3 q9) (cwV 1 hts gX5_recall_X5_bringRecallOn rfl rfl rfl (by decide +kernel) ⟨Nat.le_of_ble_eq_true rfl, Nat.le_of_ble_eq_true rfl⟩) (k_preV hW hK hN (hW.fx 5 rfl) (EE_5 cA ad S6 P M 0) rfl) rfl rfl hl.1 rfl (lv_room (Nat.le_of_ble_eq_true rfl)) dX5_recall_46 ⟨Nat.le_of_ble_eq_true rfl, Nat.le_of_ble_eq_true rfl⟩) hS ?_
          clear hW hS; intro H locs hW hS
          refine lv_iconst (v := (1 : Int32)) hx hb dX5_recall_49 (by decide) ?_
          obtain ⟨hq1, hq2⟩ := Prod.mk.inj (Option.some.inj hF)
          obtain ⟨hq2, hq3⟩ := Prod.mk.inj hq2
          subst hq1
          subst hq2
          subst hq3
          exact e_z hx hb hr hlk hK hN hW hS (by decide) dX5_recall_50
        · replace hF := it_t hF hc
          refine lv_iconst (v := (0 : Int32)) hx hb dX5_recall_37 (by decide) ?_
          obtain ⟨hq1, hq2⟩ := Prod.mk.inj (Option.some.inj hF)
          obtain ⟨hq2, hq3⟩ := Prod.mk.inj hq2
          subst hq1
          subst hq2
          subst hq3
          exact e_z hx hb hr hlk hK hN hW hS (by decide) dX5_recall_38

set_option maxHeartbeats 4000000 in
set_option maxRecDepth 100000 in
theorem c5_recall (l : Launch) {D : va_G} {cA : Nat → ClassId} {z : Nat} {ad : Nat → Nat → Nat} {N : TN} {S : TS} {P : TP} {M : TS} (a1 : Int32) (a2 : Int32) {v : Int32} {S' : TS} {P' : TP} (hF : f5_recall S P a1 a2 = some (v, S', P')) : Met l yX5_recall wsX5_recall rm5_recall (va_Pc [.ref (ad 5 0), .int a1, .int a2] (Wl D cA z (ad, N, S, P, M))) (Qi D cA z v (ad, N, S', P', M)) 0 0 (fun q => z ≤ q) := by
  refine Met.ofW (cc := cX5_recall) (maxL := 4) (ret := (some .boolean)) (by decide) rfl ?_
  intro p e s m args below meth c s₁ B hml hv
  obtain ⟨rfl, hW, hK, hN⟩ := hv
  have hl := lv_entry ([.ref (ad 5 0), .int a1, .int a2]) (n := 4) (Nat.le_of_ble_eq_true rfl)
  rw [lg_entry_eq]
  generalize (lg_sl ([.ref (ad 5 0), .int a1, .int a2]) ++ List.replicate (4 - (lg_sl ([.ref (ad 5 0), .int a1, .int a2])).length) Slot.unset).toArray = ls at hl ⊢
  exact w5_recall ⟨B.exec, B.bytes, B.returns, hml, findClass_of_methodNamed B.named, atoms_spec (ws := wsX5_recall) B.pre, B.notSynchronized⟩ hK hN a1 a2 hF hW va_S.rf hl

-- 5 sailing
abbrev rm5_sailing : Room := { frames := 2, cells := 1, slots := 9, locals := 45 }
def f5_sailing (S : TS) (P : TP) (N : TN) (a1 : Int32) (a2 : Int32) (a3 : Int32) : Option (Int32 × TS × TP × TN) :=
  (f5_shipNumbered S P a1).bind fun (r1 : Option Nat) =>
  r1.elim (some ((-1 : Int32), S, P, N))
  (fun (t3 : Nat) => if (60 : Int32) ≤ (S 505 0) then
  (some ((-1 : Int32), S, P, N))
  else
  ((f5_within a2 (0 : Int32) (100000 : Int32)).bind fun (v4 : Int32) =>
  if v4 = 0 then
  (some ((-1 : Int32), S, P, N))
  else
  ((f5_within a3 (0 : Int32) (7 : Int32)).bind fun (v6 : Int32) =>
  if v6 = 0 then
  (some ((-1 : Int32), S, P, N))
  else
  ((f5_liesTooNear S P t3 a2).bind fun (v8 : Int32) =>
  if v8 = 0 then
  (lt (upN N 2) fun (N10 : TN) =>
  lt (clr S 2 (N 2)) fun (S11 : TS) =>
  lt (clrP P 2 (N 2)) fun (P12 : TP) =>
  b2 (f2_init S11 P12 (N 2) (S11 505 0) t3 a2 a3) fun (S15 : TS) (P16 : TP) =>
  (ix (S 505 0) 60).bind fun (j18 : Nat) =>
  lt (up3 P16 900 0 j18 (some (N 2))) fun (P19 : TP) =>
  lt (up S15 505 0 ((S15 505 0) + (1 : Int32))) fun (S20 : TS) =>
  some ((S15 505 0), S20, P19, N10))
  else
  (some ((-1 : Int32), S, P, N))))))
set_option maxRecDepth 20000 in
theorem hi5_sailing_2 : ∀ w ∈ u_ws RX2 TX2 9, w ∈ wsX5_sailing := by decide +kernel
set_option maxRecDepth 20000 in
theorem hi5_sailing_5 : ∀ w ∈ u_ws RX5 TX5 12, w ∈ wsX5_sailing := by decide +kernel
set_option maxHeartbeats 4000000 in
set_option maxRecDepth 100000 in
theorem w5_sailing {p : Program} {l : Launch} {e : Env} {s : State} {m : MethodId} {args : Array Value} {below : List Frame} {meth : Method} {c : Code} (C : MC p s m args meth c cX5_sailing (some .int) 5 RX5 wsX5_sailing) {D : va_G} {cA : Nat → ClassId} {z : Nat} {ad : Nat → Nat → Nat} {N : TN} (hK : va_K D vwCl (tysW cA) s) (hN : NW s) {S : TS} {P : TP} {M : TS} (a1 : Int32) (a2 : Int32) (a3 : Int32) {v : Int32} {S' : TS} {P' : TP} {N' : TN} (hF : f5_sailing S P N a1 a2 a3 = some (v, S', P', N'))
    {H : Heap} {ls : Array Slot} (hW : Wd D cA z ad N S P M H) {locs : List Loc} (hS : va_S (fun q => z ≤ q) s.heap H locs) (hl : lv_has ls 5 [(0, .ref (ad 5 0)), (1, .int a1), (2, .int a2), (3, .int a3)]) : W p l e rm5_sailing s m args below meth c H locs 0 0 (MQ below (Qia D cA z ad N v N' S' P' M) args s 1 9 (fun q => z ≤ q)) (F0 m 0 ls []) := by
  obtain ⟨hx, hb, hr, hml, hown, hts, hlk⟩ := id C
  unfold f5_sailing at hF
  refine lv_aload_n hx hb dX5_sailing_0 rfl (lv_at hl 0 rfl) ?_
  refine lv_iload_n hx hb dX5_sailing_1 rfl (lv_at hl 1 rfl) ?_
  replace hF := ob hF
  obtain ⟨r1, q2, hF⟩ := hF
  refine k_q (va_runV (As := [.int a1]) (rest := []) ⟨hx, hb, hml, hown, hts⟩ (c5_shipNumbered l a1 q2) (cwV 1 hts gX5_sailing_X5_shipNumbered rfl rfl rfl (by decide +kernel) ⟨Nat.le_of_ble_eq_true rfl, Nat.le_of_ble_eq_true rfl⟩) (k_preV hW hK hN (hW.fx 5 rfl) (EE_5 cA ad S P M 0) rfl) rfl rfl hl.1 rfl (lv_room (Nat.le_of_ble_eq_true rfl)) dX5_sailing_2 ⟨Nat.le_of_ble_eq_true rfl, Nat.le_of_ble_eq_true rfl⟩) hS (fun H locs hW hS hr1 => ?_)
  refine q_astore (lv' := [(4, va_rf (r1.map (ad 3))), (0, .ref (ad 5 0)), (1, .int a1), (2, .int a2), (3, .int a3)]) hx hb dX5_sailing_5 hl (by decide) rfl ?_
  clear hl; intro ls hl
  refine q_aload hx hb dX5_sailing_7 (lv_at hl 0 rfl) ?_
  refine q_ifnull (tgt := 44) hx hb dX5_sailing_9 (by decide) (fun hc => ?_) (fun t3 hc => ?_)
  · subst hc
    replace hF := el_n hF
    replace hl : lv_has ls 5 [(4, .null), (0, .ref (ad 5 0)), (1, .int a1), (2, .int a2), (3, .int a3)] := hl
    refine lv_iconst (v := (-1 : Int32)) hx hb dX5_sailing_44 (by decide) ?_
    obtain ⟨hq1, hq2⟩ := Prod.mk.inj (Option.some.inj hF)
    obtain ⟨hq2, hq3⟩ := Prod.mk.inj hq2
    obtain ⟨hq3, hq4⟩ := Prod.mk.inj hq3
    subst hq1
    subst hq2
    subst hq3
    subst hq4
    refine W.widen (k := 1) (n := 9) (by decide) (by decide) ?_
    exact e_ia hx hb hr hlk hK hN hW hS  (fun _ _ _ => rfl) (fun _ => Nat.le_refl _) dX5_sailing_45
  · subst hc
    replace hF := el_s hF
    have ht3 := hr1 t3 rfl
    replace hl : lv_has ls 5 [(4, .ref (ad 3 t3)), (0, .ref (ad 5 0)), (1, .int a1), (2, .int a2), (3, .int a3)] := hl
    refine lv_aload_n hx hb dX5_sailing_12 rfl (lv_at hl 1 rfl) ?_
    refine g5_5 hx hb hts hi5_sailing_5 hown hK hW (hts (.fieldLink RX5 65 RX5 "sailingCount" "I") (by decide +kernel)) dX5_sailing_13 ?_
    refine lv_aload_n hx hb dX5_sailing_16 rfl (lv_at hl 1 rfl) ?_
    refine g5_4 hx hb hts hi5_sailing_5 hown hK hW (hts (.fieldLink RX5 23 RX5 "sailings" "[LFerryTerminal$Sailing;") (by decide +kernel)) dX5_sailing_17 ?_
    refine n9 hx hb hK hW dX5_sailing_20 ?_
    refine lv_icmp_ge (tgt := 44) hx hb dX5_sailing_21 (by decide) (fun hc => ?_) (fun hc => ?_)
    · replace hF := it_t hF hc
      refine lv_iconst (v := (-1 : Int32)) hx hb dX5_sailing_44 (by decide) ?_
      obtain ⟨hq1, hq2⟩ := Prod.mk.inj (Option.some.inj hF)
      obtain ⟨hq2, hq3⟩ := Prod.mk.inj hq2
      obtain ⟨hq3, hq4⟩ := Prod.mk.inj hq3
      subst hq1
      subst hq2
      subst hq3
      subst hq4
      refine W.widen (k := 1) (n := 9) (by decide) (by decide) ?_
      exact e_ia hx hb hr hlk hK hN hW hS  (fun _ _ _ => rfl) (fun _ => Nat.le_refl _) dX5_sailing_45
    · replace hF := it_f hF hc
      refine lv_iload_n hx hb dX5_sailing_24 rfl (lv_at hl 3 rfl) ?_
      refine lv_iconst (v := (0 : Int32)) hx hb dX5_sailing_25 (by decide) ?_
      refine lv_ldc (v := (100000 : Int32)) hx hb hown (hts (.constant RX5 68 (100000)) (by decide +kernel)) dX5_sailing_26 ?_
      replace hF := ob hF
      obtain ⟨v4, q5, hF⟩ := hF
      refine k_i (va_runS (As := [.int a2, .int (0 : Int32), .int (100000 : Int32)]) (rest := []) ⟨hx, hb, hml, hown, hts⟩ (c5_within l a2 (0 : Int32) (100000 : Int32) q5) (va_cwS 3 hts gX5_sailing_X5_within rfl rfl rfl (by decide +kernel) ⟨Nat.le_of_ble_eq_true rfl, Nat.le_of_ble_eq_true rfl⟩) (k_preS hW hK hN) rfl rfl hl.1 rfl (lv_room (Nat.le_of_ble_eq_true rfl)) dX5_sailing_28 ⟨Nat.le_of_ble_eq_true rfl, Nat.le_of_ble_eq_true rfl⟩) hS ?_
      clear hW hS; intro H locs hW hS
      refine lv_if_eq (tgt := 44) hx hb dX5_sailing_31 (by decide) (fun hc => ?_) (fun hc => ?_)
      · replace hF := it_t hF hc
        refine lv_iconst (v := (-1 : Int32)) hx hb dX5_sailing_44 (by decide) ?_
        obtain ⟨hq1, hq2⟩ := Prod.mk.inj (Option.some.inj hF)
        obtain ⟨hq2, hq3⟩ := Prod.mk.inj hq2
        obtain ⟨hq3, hq4⟩ := Prod.mk.inj hq3
        subst hq1
        subst hq2
        subst hq3
        subst hq4
        refine W.widen (k := 1) (n := 9) (by decide) (by decide) ?_
        exact e_ia hx hb hr hlk hK hN hW hS  (fun _ _ _ => rfl) (fun _ => Nat.le_refl _) dX5_sailing_45
      · replace hF := it_f hF hc
        refine lv_iload_n hx hb dX5_sailing_34 rfl (lv_at hl 4 rfl) ?_
        refine lv_iconst (v := (0 : Int32)) hx hb dX5_sailing_35 (by decide) ?_
        refine lv_bipush (v := (7 : Int32)) hx hb dX5_sailing_36 (by decide) ?_
        replace hF := ob hF
        obtain ⟨v6, q7, hF⟩ := hF
        refine k_i (va_runS (As := [.int a3, .int (0 : Int32), .int (7 : Int32)]) (rest := []) ⟨hx, hb, hml, hown, hts⟩ (c5_within l a3 (0 : Int32) (7 : Int32) q7) (va_cwS 3 hts gX5_sailing_X5_within rfl rfl rfl (by decide +kernel) ⟨Nat.le_of_ble_eq_true rfl, Nat.le_of_ble_eq_true rfl⟩) (k_preS hW hK hN) rfl rfl hl.1 rfl (lv_room (Nat.le_of_ble_eq_true rfl)) dX5_sailing_38 ⟨Nat.le_of_ble_eq_true rfl, Nat.le_of_ble_eq_true rfl⟩) hS ?_
        clear hW hS; intro H locs hW hS
        refine lv_if_ne (tgt := 46) hx hb dX5_sailing_41 (by decide) (fun hc => ?_) (fun hc => ?_)
        · replace hF := it_f hF hc
          refine lv_aload_n hx hb dX5_sailing_46 rfl (lv_at hl 1 rfl) ?_
          refine lv_aload hx hb dX5_sailing_47 (lv_at hl 0 rfl) ?_
          refine lv_iload_n hx hb dX5_sailing_49 rfl (lv_at hl 3 rfl) ?_
          replace hF := ob hF
          obtain ⟨v8, q9, hF⟩ := hF
          refine k_i (va_runV (As := [.ref (ad 3 t3), .int a2]) (rest := []) ⟨hx, hb, hml, hown, hts⟩ (c5_liesTooNear l t3 a2 ht3 q9) (cwV 2 hts gX5_sailing_X5_liesTooNear rfl rfl rfl (by decide +kernel) ⟨Nat.le_of_ble_eq_true rfl, Nat.le_of_ble_eq_true rfl⟩) (k_preV hW hK hN (hW.fx 5 rfl) (EE_5 cA ad S P M 0) rfl) rfl rfl hl.1 rfl (lv_room (Nat.le_of_ble_eq_true rfl)) dX5_sailing_50 ⟨Nat.le_of_ble_eq_true rfl, Nat.le_of_ble_eq_true rfl⟩) hS ?_
          clear hW hS; intro H locs hW hS
          refine lv_if_eq (tgt := 58) hx hb dX5_sailing_53 (by decide) (fun hc => ?_) (fun hc => ?_)
          · replace hF := it_t hF hc
            refine lv_aload_n hx hb dX5_sailing_58 rfl (lv_at hl 1 rfl) ?_
            refine g5_4 hx hb hts hi5_sailing_5 hown hK hW (hts (.fieldLink RX5 23 RX5 "sailings" "[LFerryTerminal$Sailing;") (by decide +kernel)) dX5_sailing_59 ?_
            refine lv_aload_n hx hb dX5_sailing_62 rfl (lv_at hl 1 rfl) ?_
            refine g5_5 hx hb hts hi5_sailing_5 hown hK hW (hts (.fieldLink RX5 65 RX5 "sailingCount" "I") (by decide +kernel)) dX5_sailing_63 ?_
            replace hF := lt_ex hF
            obtain ⟨N10, eN10, hF⟩ := hF
            replace hF := lt_ex hF
            obtain ⟨S11, eS11, hF⟩ := hF
            replace hF := lt_ex hF
            obtain ⟨P12, eP12, hF⟩ := hF
            have h0fx := hW
            refine r_new (k := 2) (fs := [.int 0, .null, .int 0, .int 0, .int 0, .int 0, .int 0, .null, .int 0]) (C := RX2) (T := TX2) (Nf := 9) hx hb hts hi5_sailing_2 tyX2 tyX2_ok hown (hts (.classLink RX5 21 RX2) (by decide +kernel)) (hts (.instantiable RX2 9) (by decide +kernel)) (hts (.initialized RX2) (by decide +kernel)) hK hW hS rfl (by decide) (fun j hj => by rcases (show j = 0 ∨ j = 1 ∨ j = 2 ∨ j = 3 ∨ j = 4 ∨ j = 5 ∨ j = 6 ∨ j = 7 ∨ j = 8 by omega) with rfl | rfl | rfl | rfl | rfl | rfl | rfl | rfl | rfl <;> rfl) (fun ad' => by rw [EE_2]; simp [clr, clrP, va_rf]) eN10 eS11 eP12 (Nat.le_of_ble_eq_true rfl) (Nat.le_of_ble_eq_true rfl) dX5_sailing_66 (fun H ad13 hgad13 hmad13 hW hS => ?_)
            have eaad13_0 : ad 9 0 = ad13 9 0 := (hgad13 _ _ (h0fx.fx 9 rfl)).symm
            have eaad13_1 : ad 3 t3 = ad13 3 t3 := (hgad13 _ _ ht3).symm
            have haad13_1 : t3 < N10 3 := Nat.lt_of_lt_of_le ht3 (hmad13 3)
            have eaad13_2 : ad 5 0 = ad13 5 0 := (hgad13 _ _ (h0fx.fx 5 rfl)).symm
            try rw [eaad13_0] at hl
            try rw [eaad13_1] at hl
            try rw [eaad13_2] at hl
            have hg_ad13 : ∀ k i, i < N k → ad13 k i = ad k i := fun k i h => (hgad13 k i (Nat.lt_of_lt_of_le h ((fun _ => Nat.le_refl _) k))).trans ((fun _ _ _ => rfl) k i h)
            have hmm_ad13 : ∀ k, N k ≤ N10 k := fun k => Nat.le_trans ((fun _ => Nat.le_refl _) k) (hmad13 k)
            have hn14 : N 2 < N10 2 := by rw [eN10]; exact upN_lt
            refine W.eq (g2 := F0 m 69 ls [.ref (ad13 2 (N 2)), .int (S 505 0), .ref (ad13 9 0)]) (by first | rfl | (rw [eaad13_0]; try rfl)) ?_
            refine lv_dup hx hb dX5_sailing_69 rfl ?_
            refine lv_aload_n hx hb dX5_sailing_70 rfl (lv_at hl 1 rfl) ?_
            refine g5_5 hx hb hts hi5_sailing_5 hown hK hW (hts (.fieldLink RX5 65 RX5 "sailingCount" "I") (by decide +kernel)) dX5_sailing_71 ?_
            refine lv_aload hx hb dX5_sailing_74 (lv_at hl 0 rfl) ?_
            refine lv_iload_n hx hb dX5_sailing_76 rfl (lv_at hl 3 rfl) ?_
            refine lv_iload_n hx hb dX5_sailing_77 rfl (lv_at hl 4 rfl) ?_
            replace hF := ob2 hF
            obtain ⟨S15, P16, q17, hF⟩ := hF
            refine k_v (va_runIN (b := ad13 2 (N 2)) (As := [.int (S11 505 0), .ref (ad13 3 t3), .int a2, .int a3]) (rest := [.ref (ad13 2 (N 2)), .int (S 505 0), .ref (ad13 9 0)]) ⟨hx, hb, hml, hown, hts⟩ (c2_init l (N 2) (S11 505 0) t3 a2 a3 hn14 haad13_1 q17) ⟨va_cnB 4 hts gX5_sailing_X2_init_n73 rfl rfl rfl (nm_2 hN) (hts (.initialized RX2) (by decide +kernel)) (by decide +kernel) ⟨Nat.le_of_ble_eq_true rfl, Nat.le_of_ble_eq_true rfl⟩, rfl, hts (.instanceMethod yX2_init) (by decide +kernel)⟩ (k_preS hW hK hN) rfl rfl hl.1 rfl (lv_room (Nat.le_of_ble_eq_true rfl)) dX5_sailing_78 ⟨Nat.le_of_ble_eq_true rfl, Nat.le_of_ble_eq_true rfl⟩) hS ?_
            clear hW hS; intro H locs hW hS
            replace hF := ob hF
            obtain ⟨j18, ej18, hF⟩ := hF
            replace hF := lt_ex hF
            obtain ⟨P19, eP19, hF⟩ := hF
            refine t9 (r := (some (N 2))) hx hb hK hW hS ej18 (q_some hn14) eP19 dX5_sailing_81 ?_
            clear hW hS; intro H locs hW hS
            refine lv_aload_n hx hb dX5_sailing_82 rfl (lv_at hl 1 rfl) ?_
            refine lv_dup hx hb dX5_sailing_83 rfl ?_
            refine g5_5 hx hb hts hi5_sailing_5 hown hK hW (hts (.fieldLink RX5 65 RX5 "sailingCount" "I") (by decide +kernel)) dX5_sailing_84 ?_
            refine lv_dup_x1 hx hb dX5_sailing_87 rfl rfl ?_
            refine lv_iconst (v := (1 : Int32)) hx hb dX5_sailing_88 (by decide) ?_
            refine lv_iadd hx hb dX5_sailing_89 ?_
            replace hF := lt_ex hF
            obtain ⟨S20, eS20, hF⟩ := hF
            refine p5_5 hx hb hts hi5_sailing_5 hown hK hW hS eS20 (hts (.fieldLink RX5 65 RX5 "sailingCount" "I") (by decide +kernel)) dX5_sailing_90 ?_
            clear hW hS; intro H locs hW hS
            obtain ⟨hq1, hq2⟩ := Prod.mk.inj (Option.some.inj hF)
            obtain ⟨hq2, hq3⟩ := Prod.mk.inj hq2
            obtain ⟨hq3, hq4⟩ := Prod.mk.inj hq3
            subst hq1
            subst hq2
            subst hq3
            subst hq4
            exact e_ia hx hb hr hlk hK hN hW hS  hg_ad13 hmm_ad13 dX5_sailing_93
          · replace hF := it_f hF hc
            refine lv_iconst (v := (-1 : Int32)) hx hb dX5_sailing_56 (by decide) ?_
            obtain ⟨hq1, hq2⟩ := Prod.mk.inj (Option.some.inj hF)
            obtain ⟨hq2, hq3⟩ := Prod.mk.inj hq2
            obtain ⟨hq3, hq4⟩ := Prod.mk.inj hq3
            subst hq1
            subst hq2
            subst hq3
            subst hq4
            refine W.widen (k := 1) (n := 9) (by decide) (by decide) ?_
            exact e_ia hx hb hr hlk hK hN hW hS  (fun _ _ _ => rfl) (fun _ => Nat.le_refl _) dX5_sailing_57
        · replace hF := it_t hF hc
          refine lv_iconst (v := (-1 : Int32)) hx hb dX5_sailing_44 (by decide) ?_
          obtain ⟨hq1, hq2⟩ := Prod.mk.inj (Option.some.inj hF)
          obtain ⟨hq2, hq3⟩ := Prod.mk.inj hq2
          obtain ⟨hq3, hq4⟩ := Prod.mk.inj hq3
          subst hq1
          subst hq2
          subst hq3
          subst hq4
          refine W.widen (k := 1) (n := 9) (by decide) (by decide) ?_
          exact e_ia hx hb hr hlk hK hN hW hS  (fun _ _ _ => rfl) (fun _ => Nat.le_refl _) dX5_sailing_45

set_option maxHeartbeats 4000000 in
set_option maxRecDepth 100000 in
theorem c5_sailing (l : Launch) {D : va_G} {cA : Nat → ClassId} {z : Nat} {ad : Nat → Nat → Nat} {N : TN} {S : TS} {P : TP} {M : TS} (a1 : Int32) (a2 : Int32) (a3 : Int32) {v : Int32} {S' : TS} {P' : TP} {N' : TN} (hF : f5_sailing S P N a1 a2 a3 = some (v, S', P', N')) : Met l yX5_sailing wsX5_sailing rm5_sailing (va_Pc [.ref (ad 5 0), .int a1, .int a2, .int a3] (Wl D cA z (ad, N, S, P, M))) (Qia D cA z ad N v N' S' P' M) 1 9 (fun q => z ≤ q) := by
  refine Met.ofW (cc := cX5_sailing) (maxL := 5) (ret := (some .int)) (by decide) rfl ?_
  intro p e s m args below meth c s₁ B hml hv
  obtain ⟨rfl, hW, hK, hN⟩ := hv
  have hl := lv_entry ([.ref (ad 5 0), .int a1, .int a2, .int a3]) (n := 5) (Nat.le_of_ble_eq_true rfl)
  rw [lg_entry_eq]
  generalize (lg_sl ([.ref (ad 5 0), .int a1, .int a2, .int a3]) ++ List.replicate (5 - (lg_sl ([.ref (ad 5 0), .int a1, .int a2, .int a3])).length) Slot.unset).toArray = ls at hl ⊢
  exact w5_sailing ⟨B.exec, B.bytes, B.returns, hml, findClass_of_methodNamed B.named, atoms_spec (ws := wsX5_sailing) B.pre, B.notSynchronized⟩ hK hN a1 a2 a3 hF hW va_S.rf hl

-- 5 ticketsOf
abbrev rm5_ticketsOf : Room := { frames := 0, cells := 0, slots := 0, locals := 0 }
def f5_ticketsOf_4 (K : Int32 → Option (Int32)) (S : TS) (P : TP) (c1 : Nat) : Nat → Int32 → Int32 → Option (Int32)
  | 0, _, _ => none
  | n + 1, y2, y3 =>
    if (S 507 0) ≤ y3 then
    (K y2)
    else
    ((ix y3 400).bind fun (j1 : Nat) =>
    lt (P 1000 0 j1) fun (r2 : Option Nat) =>
    r2.bind fun (t3 : Nat) =>
    lt (P 401 t3 0) fun (r4 : Option Nat) =>
    if r4 = (some c1) then
    (f5_ticketsOf_4 K S P c1 n (y2 + 1) (y3 + 1))
    else
    (f5_ticketsOf_4 K S P c1 n y2 (y3 + 1)))

def f5_ticketsOf (S : TS) (P : TP) (a1 : Nat) : Option (Int32) :=
  f5_ticketsOf_4 (fun (w5 : Int32) =>
  some w5) S P a1 FU (0 : Int32) (0 : Int32)
set_option maxRecDepth 20000 in
theorem hi5_ticketsOf_4 : ∀ w ∈ u_ws RX4 TX4 16, w ∈ wsX5_ticketsOf := by decide +kernel
set_option maxRecDepth 20000 in
theorem hi5_ticketsOf_5 : ∀ w ∈ u_ws RX5 TX5 12, w ∈ wsX5_ticketsOf := by decide +kernel
set_option maxHeartbeats 4000000 in
set_option maxRecDepth 100000 in
theorem w5_ticketsOf_4 {p : Program} {l : Launch} {e : Env} {s : State} {m : MethodId} {args : Array Value} {below : List Frame} {meth : Method} {c : Code} (C : MC p s m args meth c cX5_ticketsOf (some .int) 4 RX5 wsX5_ticketsOf) {D : va_G} {cA : Nat → ClassId} {z : Nat} {ad : Nat → Nat → Nat} {N : TN} (hK : va_K D vwCl (tysW cA) s) (hN : NW s) {M : TS} {S : TS} {P : TP} (c1 : Nat) (hc1 : c1 < N 2) {v : Int32} {K : Int32 → Option (Int32)}
    (hE : ∀ (e2 : Int32) (H : Heap) (locs : List Loc) (ls : Array Slot), K e2 = some v → Wd D cA z ad N S P M H → va_S (fun q => z ≤ q) s.heap H locs → lv_has ls 4 [(2, .int e2)] → W p l e rm5_ticketsOf s m args below meth c H locs 0 0 (MQ below (Qi D cA z v (ad, N, S, P, M)) args s 0 0 (fun q => z ≤ q)) (F0 m 34 ls [])) :
    ∀ (n : Nat) (y2 : Int32) (y3 : Int32) (H : Heap) (locs : List Loc) (ls : Array Slot), f5_ticketsOf_4 K S P c1 n y2 y3 = some v → Wd D cA z ad N S P M H → va_S (fun q => z ≤ q) s.heap H locs → lv_has ls 4 [(0, .ref (ad 5 0)), (1, .ref (ad 2 c1)), (2, .int y2), (3, .int y3)] → W p l e rm5_ticketsOf s m args below meth c H locs 0 0 (MQ below (Qi D cA z v (ad, N, S, P, M)) args s 0 0 (fun q => z ≤ q)) (F0 m 4 ls []) := by
  obtain ⟨hx, hb, hr, hml, hown, hts, hlk⟩ := id C
  intro n
  induction n with
  | zero => intro y2 y3 H locs ls hF; cases hF
  | succ n ih =>
    intro y2 y3 H locs ls hF hW hS hl
    rw [f5_ticketsOf_4] at hF
    refine lv_iload_n hx hb dX5_ticketsOf_4 rfl (lv_at hl 3 rfl) ?_
    refine lv_aload_n hx hb dX5_ticketsOf_5 rfl (lv_at hl 0 rfl) ?_
    refine g5_7 hx hb hts hi5_ticketsOf_5 hown hK hW (hts (.fieldLink RX5 100 RX5 "ticketCount" "I") (by decide +kernel)) dX5_ticketsOf_6 ?_
    refine lv_icmp_ge (tgt := 34) hx hb dX5_ticketsOf_9 (by decide) (fun hc => ?_) (fun hc => ?_)
    · replace hF := it_t hF hc
      exact hE y2 _ _ _ hF hW hS (lv_sub hl [2] rfl)
    · replace hF := it_f hF hc
      refine lv_aload_n hx hb dX5_ticketsOf_12 rfl (lv_at hl 0 rfl) ?_
      refine g5_6 hx hb hts hi5_ticketsOf_5 hown hK hW (hts (.fieldLink RX5 29 RX5 "tickets" "[LFerryTerminal$Ticket;") (by decide +kernel)) dX5_ticketsOf_13 ?_
      refine lv_iload_n hx hb dX5_ticketsOf_16 rfl (lv_at hl 3 rfl) ?_
      replace hF := ob hF
      obtain ⟨j1, ej1, hF⟩ := hF
      replace hF := lt_ex hF
      obtain ⟨r2, er2, hF⟩ := hF
      have hr2 : ∀ y, r2 = some y → y < N 4 := hW.v er2
      refine l10 hx hb hK hW ej1 er2 dX5_ticketsOf_17 ?_
      replace hF := ob hF
      obtain ⟨t3, et3, hF⟩ := hF
      subst et3
      have ht3 := hr2 t3 rfl
      replace hF := lt_ex hF
      obtain ⟨r4, er4, hF⟩ := hF
      have hr4 : ∀ y, r4 = some y → y < N 2 := hW.v er4
      refine gn4_1 hx hb hts hi5_ticketsOf_4 hown hK hW ht3 er4 (nf_22 hN) dX5_ticketsOf_18 ?_
      refine lv_aload_n hx hb dX5_ticketsOf_21 rfl (lv_at hl 1 rfl) ?_
      refine q_acmp_ne hx hb hW 2 r4 (some c1) hr4 (q_some hc1) (tgt := 28) dX5_ticketsOf_22 (by decide) (fun hc => ?_) (fun hc => ?_)
      · replace hF := it_f hF hc
        refine lv_iinc (v := y3 + 1) (lv' := [(3, .int (y3 + 1)), (0, .ref (ad 5 0)), (1, .ref (ad 2 c1)), (2, .int y2)]) hx hb dX5_ticketsOf_28 hl (k := 3) rfl rfl (by decide) rfl ?_
        clear hl; intro ls hl
        refine lv_goto (tgt := 4) hx hb dX5_ticketsOf_31 (by decide) ?_
        exact ih y2 (y3 + 1) _ _ _ hF hW hS (lv_sub hl [1, 2, 3, 0] rfl)
      · replace hF := it_t hF hc
        refine lv_iinc (v := y2 + 1) (lv' := [(2, .int (y2 + 1)), (0, .ref (ad 5 0)), (1, .ref (ad 2 c1)), (3, .int y3)]) hx hb dX5_ticketsOf_25 hl (k := 2) rfl rfl (by decide) rfl ?_
        clear hl; intro ls hl
        refine lv_iinc (v := y3 + 1) (lv' := [(3, .int (y3 + 1)), (2, .int (y2 + 1)), (0, .ref (ad 5 0)), (1, .ref (ad 2 c1))]) hx hb dX5_ticketsOf_28 hl (k := 3) rfl rfl (by decide) rfl ?_
        clear hl; intro ls hl
        refine lv_goto (tgt := 4) hx hb dX5_ticketsOf_31 (by decide) ?_
        exact ih (y2 + 1) (y3 + 1) _ _ _ hF hW hS (lv_sub hl [2, 3, 1, 0] rfl)

set_option maxHeartbeats 4000000 in
set_option maxRecDepth 100000 in
theorem w5_ticketsOf {p : Program} {l : Launch} {e : Env} {s : State} {m : MethodId} {args : Array Value} {below : List Frame} {meth : Method} {c : Code} (C : MC p s m args meth c cX5_ticketsOf (some .int) 4 RX5 wsX5_ticketsOf) {D : va_G} {cA : Nat → ClassId} {z : Nat} {ad : Nat → Nat → Nat} {N : TN} (hK : va_K D vwCl (tysW cA) s) (hN : NW s) {S : TS} {P : TP} {M : TS} (a1 : Nat) (ha1 : a1 < N 2) {v : Int32} (hF : f5_ticketsOf S P a1 = some v)
    {H : Heap} {ls : Array Slot} (hW : Wd D cA z ad N S P M H) {locs : List Loc} (hS : va_S (fun q => z ≤ q) s.heap H locs) (hl : lv_has ls 4 [(0, .ref (ad 5 0)), (1, .ref (ad 2 a1))]) : W p l e rm5_ticketsOf s m args below meth c H locs 0 0 (MQ below (Qi D cA z v (ad, N, S, P, M)) args s 0 0 (fun q => z ≤ q)) (F0 m 0 ls []) := by
  obtain ⟨hx, hb, hr, hml, hown, hts, hlk⟩ := id C
  unfold f5_ticketsOf at hF
  refine lv_iconst (v := (0 : Int32)) hx hb dX5_ticketsOf_0 (by decide) ?_
  refine lv_istore_n (lv' := [(2, .int (0 : Int32)), (0, .ref (ad 5 0)), (1, .ref (ad 2 a1))]) hx hb dX5_ticketsOf_1 rfl hl (by decide) rfl ?_
  clear hl; intro ls hl
  refine lv_iconst (v := (0 : Int32)) hx hb dX5_ticketsOf_2 (by decide) ?_
  refine lv_istore_n (lv' := [(3, .int (0 : Int32)), (2, .int (0 : Int32)), (0, .ref (ad 5 0)), (1, .ref (ad 2 a1))]) hx hb dX5_ticketsOf_3 rfl hl (by decide) rfl ?_
  clear hl; intro ls hl
  refine w5_ticketsOf_4 C hK hN a1 ha1 (hE := ?_) FU (0 : Int32) (0 : Int32) _ _ _ hF hW hS (lv_sub hl [2, 3, 1, 0] rfl)
  intro w5 H locs ls hF hW hS hl
  refine lv_iload_n hx hb dX5_ticketsOf_34 rfl (lv_at hl 0 rfl) ?_
  have hq1 := Option.some.inj hF
  subst hq1
  exact e_i hx hb hr hlk hK hN hW hS dX5_ticketsOf_35

set_option maxHeartbeats 4000000 in
set_option maxRecDepth 100000 in
theorem c5_ticketsOf (l : Launch) {D : va_G} {cA : Nat → ClassId} {z : Nat} {ad : Nat → Nat → Nat} {N : TN} {S : TS} {P : TP} {M : TS} (a1 : Nat) (ha1 : a1 < N 2) {v : Int32} (hF : f5_ticketsOf S P a1 = some v) : Met l yX5_ticketsOf wsX5_ticketsOf rm5_ticketsOf (va_Pc [.ref (ad 5 0), .ref (ad 2 a1)] (Wl D cA z (ad, N, S, P, M))) (Qi D cA z v (ad, N, S, P, M)) 0 0 (fun q => z ≤ q) := by
  refine Met.ofW (cc := cX5_ticketsOf) (maxL := 4) (ret := (some .int)) (by decide) rfl ?_
  intro p e s m args below meth c s₁ B hml hv
  obtain ⟨rfl, hW, hK, hN⟩ := hv
  have hl := lv_entry ([.ref (ad 5 0), .ref (ad 2 a1)]) (n := 4) (Nat.le_of_ble_eq_true rfl)
  rw [lg_entry_eq]
  generalize (lg_sl ([.ref (ad 5 0), .ref (ad 2 a1)]) ++ List.replicate (4 - (lg_sl ([.ref (ad 5 0), .ref (ad 2 a1)])).length) Slot.unset).toArray = ls at hl ⊢
  exact w5_ticketsOf ⟨B.exec, B.bytes, B.returns, hml, findClass_of_methodNamed B.named, atoms_spec (ws := wsX5_ticketsOf) B.pre, B.notSynchronized⟩ hK hN a1 ha1 hF hW va_S.rf hl

-- 5 sailingOf
abbrev rm5_sailingOf : Room := { frames := 2, cells := 0, slots := 0, locals := 43 }
def f5_sailingOf (S : TS) (P : TP) (a1 : Int32) (a2 : Int32) : Option (Int32) :=
  (f5_sailingNumbered S P a1).bind fun (r1 : Option Nat) =>
  r1.elim (some (-1 : Int32))
  (fun (t3 : Nat) => if a2 = 0 then
  (lt (P 201 t3 0) fun (r4 : Option Nat) =>
  r4.bind fun (t5 : Nat) =>
  some (S 300 t5))
  else
  (if a2 = 1 then
  (some (S 202 t3))
  else
  (if a2 = 2 then
  (some (S 203 t3))
  else
  (if a2 = 3 then
  (some (S 204 t3))
  else
  (if a2 = 4 then
  (some (S 205 t3))
  else
  (if a2 = 5 then
  (some (S 206 t3))
  else
  (if a2 = 6 then
  ((f5_ticketsOf S P t3).bind fun (v6 : Int32) =>
  some v6)
  else
  (some (-1 : Int32)))))))))
set_option maxRecDepth 20000 in
theorem hi5_sailingOf_2 : ∀ w ∈ u_ws RX2 TX2 9, w ∈ wsX5_sailingOf := by decide +kernel
set_option maxRecDepth 20000 in
theorem hi5_sailingOf_3 : ∀ w ∈ u_ws RX3 TX3 8, w ∈ wsX5_sailingOf := by decide +kernel
set_option maxHeartbeats 4000000 in
set_option maxRecDepth 100000 in
theorem w5_sailingOf {p : Program} {l : Launch} {e : Env} {s : State} {m : MethodId} {args : Array Value} {below : List Frame} {meth : Method} {c : Code} (C : MC p s m args meth c cX5_sailingOf (some .int) 4 RX5 wsX5_sailingOf) {D : va_G} {cA : Nat → ClassId} {z : Nat} {ad : Nat → Nat → Nat} {N : TN} (hK : va_K D vwCl (tysW cA) s) (hN : NW s) {S : TS} {P : TP} {M : TS} (a1 : Int32) (a2 : Int32) {v : Int32} (hF : f5_sailingOf S P a1 a2 = some v)
    {H : Heap} {ls : Array Slot} (hW : Wd D cA z ad N S P M H) {locs : List Loc} (hS : va_S (fun q => z ≤ q) s.heap H locs) (hl : lv_has ls 4 [(0, .ref (ad 5 0)), (1, .int a1), (2, .int a2)]) : W p l e rm5_sailingOf s m args below meth c H locs 0 0 (MQ below (Qi D cA z v (ad, N, S, P, M)) args s 0 0 (fun q => z ≤ q)) (F0 m 0 ls []) := by
  obtain ⟨hx, hb, hr, hml, hown, hts, hlk⟩ := id C
  unfold f5_sailingOf at hF
  refine lv_aload_n hx hb dX5_sailingOf_0 rfl (lv_at hl 0 rfl) ?_
  refine lv_iload_n hx hb dX5_sailingOf_1 rfl (lv_at hl 1 rfl) ?_
  replace hF := ob hF
  obtain ⟨r1, q2, hF⟩ := hF
  refine k_q (va_runV (As := [.int a1]) (rest := []) ⟨hx, hb, hml, hown, hts⟩ (c5_sailingNumbered l a1 q2) (cwV 1 hts gX5_sailingOf_X5_sailingNumbered rfl rfl rfl (by decide +kernel) ⟨Nat.le_of_ble_eq_true rfl, Nat.le_of_ble_eq_true rfl⟩) (k_preV hW hK hN (hW.fx 5 rfl) (EE_5 cA ad S P M 0) rfl) rfl rfl hl.1 rfl (lv_room (Nat.le_of_ble_eq_true rfl)) dX5_sailingOf_2 ⟨Nat.le_of_ble_eq_true rfl, Nat.le_of_ble_eq_true rfl⟩) hS (fun H locs hW hS hr1 => ?_)
  refine q_astore_n (lv' := [(3, va_rf (r1.map (ad 2))), (0, .ref (ad 5 0)), (1, .int a1), (2, .int a2)]) hx hb dX5_sailingOf_5 rfl hl (by decide) rfl ?_
  clear hl; intro ls hl
  refine q_aload_n hx hb dX5_sailingOf_6 rfl (lv_at hl 0 rfl) ?_
  refine q_ifnonnull (tgt := 12) hx hb dX5_sailingOf_7 (by decide) (fun t3 hc => ?_) (fun hc => ?_)
  · subst hc
    replace hF := el_s hF
    have ht3 := hr1 t3 rfl
    replace hl : lv_has ls 4 [(3, .ref (ad 2 t3)), (0, .ref (ad 5 0)), (1, .int a1), (2, .int a2)] := hl
    refine lv_iload_n hx hb dX5_sailingOf_12 rfl (lv_at hl 3 rfl) ?_
    by_cases hn0 : a2 = 0
    · replace hF := it_t hF hn0
      refine lv_tableIn (off := 43) (tgt := 56) hx hb dX5_sailingOf_13 (by rw [hn0]; decide) (by rw [hn0]; decide) (by rw [hn0]; rfl) (by decide) ?_
      refine lv_aload_n hx hb dX5_sailingOf_56 rfl (lv_at hl 0 rfl) ?_
      replace hF := lt_ex hF
      obtain ⟨r4, er4, hF⟩ := hF
      have hr4 : ∀ y, r4 = some y → y < N 3 := hW.v er4
      refine gn2_1 hx hb hts hi5_sailingOf_2 hown hK hW ht3 er4 (nf_12 hN) dX5_sailingOf_57 ?_
      replace hF := ob hF
      obtain ⟨t5, et5, hF⟩ := hF
      subst et5
      have ht5 := hr4 t5 rfl
      refine gn3_0 hx hb hts hi5_sailingOf_3 hown hK hW ht5 (nf_0 hN) dX5_sailingOf_60 ?_
      have hq1 := Option.some.inj hF
      subst hq1
      exact e_i hx hb hr hlk hK hN hW hS dX5_sailingOf_63
    · replace hF := it_f hF hn0
      by_cases hn1 : a2 = 1
      · replace hF := it_t hF hn1
        refine lv_tableIn (off := 51) (tgt := 64) hx hb dX5_sailingOf_13 (by rw [hn1]; decide) (by rw [hn1]; decide) (by rw [hn1]; rfl) (by decide) ?_
        refine lv_aload_n hx hb dX5_sailingOf_64 rfl (lv_at hl 0 rfl) ?_
        refine gn2_2 hx hb hts hi5_sailingOf_2 hown hK hW ht3 (nf_14 hN) dX5_sailingOf_65 ?_
        have hq1 := Option.some.inj hF
        subst hq1
        exact e_i hx hb hr hlk hK hN hW hS dX5_sailingOf_68
      · replace hF := it_f hF hn1
        by_cases hn2 : a2 = 2
        · replace hF := it_t hF hn2
          refine lv_tableIn (off := 56) (tgt := 69) hx hb dX5_sailingOf_13 (by rw [hn2]; decide) (by rw [hn2]; decide) (by rw [hn2]; rfl) (by decide) ?_
          refine lv_aload_n hx hb dX5_sailingOf_69 rfl (lv_at hl 0 rfl) ?_
          refine gn2_3 hx hb hts hi5_sailingOf_2 hown hK hW ht3 (nf_15 hN) dX5_sailingOf_70 ?_
          have hq1 := Option.some.inj hF
          subst hq1
          exact e_i hx hb hr hlk hK hN hW hS dX5_sailingOf_73
        · replace hF := it_f hF hn2
          by_cases hn3 : a2 = 3
          · replace hF := it_t hF hn3
            refine lv_tableIn (off := 61) (tgt := 74) hx hb dX5_sailingOf_13 (by rw [hn3]; decide) (by rw [hn3]; decide) (by rw [hn3]; rfl) (by decide) ?_
            refine lv_aload_n hx hb dX5_sailingOf_74 rfl (lv_at hl 0 rfl) ?_
            refine gn2_4 hx hb hts hi5_sailingOf_2 hown hK hW ht3 (nf_16 hN) dX5_sailingOf_75 ?_
            have hq1 := Option.some.inj hF
            subst hq1
            exact e_i hx hb hr hlk hK hN hW hS dX5_sailingOf_78
          · replace hF := it_f hF hn3
            by_cases hn4 : a2 = 4
            · replace hF := it_t hF hn4
              refine lv_tableIn (off := 66) (tgt := 79) hx hb dX5_sailingOf_13 (by rw [hn4]; decide) (by rw [hn4]; decide) (by rw [hn4]; rfl) (by decide) ?_
              refine lv_aload_n hx hb dX5_sailingOf_79 rfl (lv_at hl 0 rfl) ?_
              refine gn2_5 hx hb hts hi5_sailingOf_2 hown hK hW ht3 (nf_17 hN) dX5_sailingOf_80 ?_
              have hq1 := Option.some.inj hF
              subst hq1
              exact e_i hx hb hr hlk hK hN hW hS dX5_sailingOf_83
            · replace hF := it_f hF hn4
              by_cases hn5 : a2 = 5
              · replace hF := it_t hF hn5
                refine lv_tableIn (off := 71) (tgt := 84) hx hb dX5_sailingOf_13 (by rw [hn5]; decide) (by rw [hn5]; decide) (by rw [hn5]; rfl) (by decide) ?_
                refine lv_aload_n hx hb dX5_sailingOf_84 rfl (lv_at hl 0 rfl) ?_
                refine gn2_6 hx hb hts hi5_sailingOf_2 hown hK hW ht3 (nf_18 hN) dX5_sailingOf_85 ?_
                have hq1 := Option.some.inj hF
                subst hq1
                exact e_i hx hb hr hlk hK hN hW hS dX5_sailingOf_88
              · replace hF := it_f hF hn5
                by_cases hn6 : a2 = 6
                · replace hF := it_t hF hn6
                  refine lv_tableIn (off := 76) (tgt := 89) hx hb dX5_sailingOf_13 (by rw [hn6]; decide) (by rw [hn6]; decide) (by rw [hn6]; rfl) (by decide) ?_
                  refine lv_aload_n hx hb dX5_sailingOf_89 rfl (lv_at hl 1 rfl) ?_
                  refine lv_aload_n hx hb dX5_sailingOf_90 rfl (lv_at hl 0 rfl) ?_
                  replace hF := ob hF
                  obtain ⟨v6, q7, hF⟩ := hF
                  refine k_i (va_runV (As := [.ref (ad 2 t3)]) (rest := []) ⟨hx, hb, hml, hown, hts⟩ (c5_ticketsOf l t3 ht3 q7) (cwV 1 hts gX5_sailingOf_X5_ticketsOf rfl rfl rfl (by decide +kernel) ⟨Nat.le_of_ble_eq_true rfl, Nat.le_of_ble_eq_true rfl⟩) (k_preV hW hK hN (hW.fx 5 rfl) (EE_5 cA ad S P M 0) rfl) rfl rfl hl.1 rfl (lv_room (Nat.le_of_ble_eq_true rfl)) dX5_sailingOf_91 ⟨Nat.le_of_ble_eq_true rfl, Nat.le_of_ble_eq_true rfl⟩) hS ?_
                  clear hW hS; intro H locs hW hS
                  have hq1 := Option.some.inj hF
                  subst hq1
                  exact e_i hx hb hr hlk hK hN hW hS dX5_sailingOf_94
                · replace hF := it_f hF hn6
                  have hq0 := sw_ne hn0 (n := 0) (by decide)
                  have hq1 := sw_ne hn1 (n := 1) (by decide)
                  have hq2 := sw_ne hn2 (n := 2) (by decide)
                  have hq3 := sw_ne hn3 (n := 3) (by decide)
                  have hq4 := sw_ne hn4 (n := 4) (by decide)
                  have hq5 := sw_ne hn5 (n := 5) (by decide)
                  have hq6 := sw_ne hn6 (n := 6) (by decide)
                  refine lv_tableOut (tgt := 95) hx hb dX5_sailingOf_13 (by omega) (by decide) ?_
                  refine lv_iconst (v := (-1 : Int32)) hx hb dX5_sailingOf_95 (by decide) ?_
                  have hq1 := Option.some.inj hF
                  subst hq1
                  exact e_i hx hb hr hlk hK hN hW hS dX5_sailingOf_96
  · subst hc
    replace hF := el_n hF
    replace hl : lv_has ls 4 [(3, .null), (0, .ref (ad 5 0)), (1, .int a1), (2, .int a2)] := hl
    refine lv_iconst (v := (-1 : Int32)) hx hb dX5_sailingOf_10 (by decide) ?_
    have hq1 := Option.some.inj hF
    subst hq1
    exact e_i hx hb hr hlk hK hN hW hS dX5_sailingOf_11

set_option maxHeartbeats 4000000 in
set_option maxRecDepth 100000 in
theorem c5_sailingOf (l : Launch) {D : va_G} {cA : Nat → ClassId} {z : Nat} {ad : Nat → Nat → Nat} {N : TN} {S : TS} {P : TP} {M : TS} (a1 : Int32) (a2 : Int32) {v : Int32} (hF : f5_sailingOf S P a1 a2 = some v) : Met l yX5_sailingOf wsX5_sailingOf rm5_sailingOf (va_Pc [.ref (ad 5 0), .int a1, .int a2] (Wl D cA z (ad, N, S, P, M))) (Qi D cA z v (ad, N, S, P, M)) 0 0 (fun q => z ≤ q) := by
  refine Met.ofW (cc := cX5_sailingOf) (maxL := 4) (ret := (some .int)) (by decide) rfl ?_
  intro p e s m args below meth c s₁ B hml hv
  obtain ⟨rfl, hW, hK, hN⟩ := hv
  have hl := lv_entry ([.ref (ad 5 0), .int a1, .int a2]) (n := 4) (Nat.le_of_ble_eq_true rfl)
  rw [lg_entry_eq]
  generalize (lg_sl ([.ref (ad 5 0), .int a1, .int a2]) ++ List.replicate (4 - (lg_sl ([.ref (ad 5 0), .int a1, .int a2])).length) Slot.unset).toArray = ls at hl ⊢
  exact w5_sailingOf ⟨B.exec, B.bytes, B.returns, hml, findClass_of_methodNamed B.named, atoms_spec (ws := wsX5_sailingOf) B.pre, B.notSynchronized⟩ hK hN a1 a2 hF hW va_S.rf hl

-- 5 settle
abbrev rm5_settle : Room := { frames := 7, cells := 0, slots := 0, locals := 164 }
def f5_settle_15 (K : TS → TP → Option (Int32 × TS × TP)) (c1 : Int32) : Nat → TS → TP → Int32 → Option (Int32 × TS × TP)
  | 0, _, _, _ => none
  | n + 1, S, P, y2 =>
    if c1 ≤ y2 then
    (K S P)
    else
    ((f5_firstWithTurn S P).bind fun (r3 : Option Nat) =>
    r3.elim (some (y2, S, P))
    (fun (t5 : Nat) => lt (fun (S6 : TS) (P7 : TP) => (b2 (f5_bringRecallOn S6 P7 t5) fun (S8 : TS) (P9 : TP) =>
    f5_settle_15 K c1 n S8 P9 (y2 + 1))) fun (K72 : TS → TP → Option (Int32 × TS × TP)) =>
    if (S 206 t5) = 0 then
    (b2 (f5_doRecallTurn S P t5) fun (S16 : TS) (P17 : TP) =>
    K72 S16 P17)
    else
    (b2 (f5_doBoardingTurn S P t5) fun (S11 : TS) (P12 : TP) =>
    lt (if (S11 206 t5) ≤ 0 then (0 : Int32) else (1 : Int32)) fun (x14 : Int32) =>
    lt (up S11 206 t5 ((S11 206 t5) - x14)) fun (S15 : TS) =>
    K72 S15 P12)))

def f5_settle (S : TS) (P : TP) (a1 : Int32) : Option (Int32 × TS × TP) :=
  (f5_within a1 (0 : Int32) (500 : Int32)).bind fun (v1 : Int32) =>
  if v1 = 0 then
  (some ((-1 : Int32), S, P))
  else
  (f5_settle_15 (fun (S19 : TS) (P20 : TP) =>
  some (a1, S19, P20)) a1 FU S P (0 : Int32))
set_option maxRecDepth 20000 in
theorem hi5_settle_2 : ∀ w ∈ u_ws RX2 TX2 9, w ∈ wsX5_settle := by decide +kernel
set_option maxHeartbeats 4000000 in
set_option maxRecDepth 100000 in
theorem w5_settle_15 {p : Program} {l : Launch} {e : Env} {s : State} {m : MethodId} {args : Array Value} {below : List Frame} {meth : Method} {c : Code} (C : MC p s m args meth c cX5_settle (some .int) 4 RX5 wsX5_settle) {D : va_G} {cA : Nat → ClassId} {z : Nat} {ad : Nat → Nat → Nat} {N : TN} (hK : va_K D vwCl (tysW cA) s) (hN : NW s) {M : TS} (c1 : Int32) {v : Int32} {S' : TS} {P' : TP} {K : TS → TP → Option (Int32 × TS × TP)}
    (hE : ∀ (S : TS) (P : TP) (H : Heap) (locs : List Loc) (ls : Array Slot), K S P = some (v, S', P') → Wd D cA z ad N S P M H → va_S (fun q => z ≤ q) s.heap H locs → lv_has ls 4 [(1, .int c1)] → W p l e rm5_settle s m args below meth c H locs 0 0 (MQ below (Qi D cA z v (ad, N, S', P', M)) args s 0 0 (fun q => z ≤ q)) (F0 m 83 ls [])) :
    ∀ (n : Nat) (S : TS) (P : TP) (y2 : Int32) (H : Heap) (locs : List Loc) (ls : Array Slot), f5_settle_15 K c1 n S P y2 = some (v, S', P') → Wd D cA z ad N S P M H → va_S (fun q => z ≤ q) s.heap H locs → lv_has ls 4 [(0, .ref (ad 5 0)), (1, .int c1), (2, .int y2)] → W p l e rm5_settle s m args below meth c H locs 0 0 (MQ below (Qi D cA z v (ad, N, S', P', M)) args s 0 0 (fun q => z ≤ q)) (F0 m 15 ls []) := by
  obtain ⟨hx, hb, hr, hml, hown, hts, hlk⟩ := id C
  intro n
  induction n with
  | zero => intro S P y2 H locs ls hF; cases hF
  | succ n ih =>
    intro S P y2 H locs ls hF hW hS hl
    rw [f5_settle_15] at hF
    refine lv_iload_n hx hb dX5_settle_15 rfl (lv_at hl 2 rfl) ?_
    refine lv_iload_n hx hb dX5_settle_16 rfl (lv_at hl 1 rfl) ?_
    refine lv_icmp_ge (tgt := 83) hx hb dX5_settle_17 (by decide) (fun hc => ?_) (fun hc => ?_)
    · replace hF := it_t hF hc
      exact hE S P _ _ _ hF hW hS (lv_sub hl [1] rfl)
    · replace hF := it_f hF hc
      refine lv_aload_n hx hb dX5_settle_20 rfl (lv_at hl 0 rfl) ?_
      replace hF := ob hF
      obtain ⟨r3, q4, hF⟩ := hF
      refine k_q (va_runV (As := []) (rest := []) ⟨hx, hb, hml, hown, hts⟩ (c5_firstWithTurn l q4) (cwV 0 hts gX5_settle_X5_firstWithTurn rfl rfl rfl (by decide +kernel) ⟨Nat.le_of_ble_eq_true rfl, Nat.le_of_ble_eq_true rfl⟩) (k_preV hW hK hN (hW.fx 5 rfl) (EE_5 cA ad S P M 0) rfl) rfl rfl hl.1 rfl (lv_room (Nat.le_of_ble_eq_true rfl)) dX5_settle_21 ⟨Nat.le_of_ble_eq_true rfl, Nat.le_of_ble_eq_true rfl⟩) hS (fun H locs hW hS hr3 => ?_)
      refine q_astore_n (lv' := [(3, va_rf (r3.map (ad 2))), (0, .ref (ad 5 0)), (1, .int c1), (2, .int y2)]) hx hb dX5_settle_24 rfl hl (by decide) rfl ?_
      clear hl; intro ls hl
      refine q_aload_n hx hb dX5_settle_25 rfl (lv_at hl 0 rfl) ?_
      refine q_ifnonnull (tgt := 31) hx hb dX5_settle_26 (by decide) (fun t5 hc => ?_) (fun hc => ?_)
      · subst hc
        replace hF := el_s hF
        have ht5 := hr3 t5 rfl
        replace hl : lv_has ls 4 [(3, .ref (ad 2 t5)), (0, .ref (ad 5 0)), (1, .int c1), (2, .int y2)] := hl
        refine lv_aload_n hx hb dX5_settle_31 rfl (lv_at hl 0 rfl) ?_
        refine gn2_6 hx hb hts hi5_settle_2 hown hK hW ht5 (nf_18 hN) dX5_settle_32 ?_
        replace hF := lt_ex hF
        obtain ⟨K72, eK72, hF⟩ := hF
        have hK72 : ∀ (S6 : TS) (P7 : TP) (H : Heap) (locs : List Loc) (ls : Array Slot), K72 S6 P7 = some (v, S', P') → Wd D cA z ad N S6 P7 M H → va_S (fun q => z ≤ q) s.heap H locs → lv_has ls 4 [(0, .ref (ad 5 0)), (1, .int c1), (2, .int y2), (3, .ref (ad 2 t5))] → W p l e rm5_settle s m args below meth c H locs 0 0 (MQ below (Qi D cA z v (ad, N, S', P', M)) args s 0 0 (fun q => z ≤ q)) (F0 m 72 ls []) := by
          intro S6 P7 H locs ls hF hW hS hl
          subst eK72
          refine lv_aload_n hx hb dX5_settle_72 rfl (lv_at hl 0 rfl) ?_
          refine lv_aload_n hx hb dX5_settle_73 rfl (lv_at hl 3 rfl) ?_
          replace hF := ob2 hF
          obtain ⟨S8, P9, q10, hF⟩ := hF
          refine k_v (va_runV (As := [.ref (ad 2 t5)]) (rest := []) ⟨hx, hb, hml, hown, hts⟩ (c5_bringRecallOn l t5 ht5 q10) (cwV 1 hts gX5_settle_X5_bringRecallOn rfl rfl rfl (by decide +kernel) ⟨Nat.le_of_ble_eq_true rfl, Nat.le_of_ble_eq_true rfl⟩) (k_preV hW hK hN (hW.fx 5 rfl) (EE_5 cA ad S6 P7 M 0) rfl) rfl rfl hl.1 rfl (lv_room (Nat.le_of_ble_eq_true rfl)) dX5_settle_74 ⟨Nat.le_of_ble_eq_true rfl, Nat.le_of_ble_eq_true rfl⟩) hS ?_
          clear hW hS; intro H locs hW hS
          refine lv_iinc (v := y2 + 1) (lv' := [(2, .int (y2 + 1)), (0, .ref (ad 5 0)), (1, .int c1), (3, .ref (ad 2 t5))]) hx hb dX5_settle_77 hl (k := 2) rfl rfl (by decide) rfl ?_
          clear hl; intro ls hl
          refine lv_goto (tgt := 15) hx hb dX5_settle_80 (by decide) ?_
          exact ih S8 P9 (y2 + 1) _ _ _ hF hW hS (lv_sub hl [1, 2, 0] rfl)
        clear eK72
        refine lv_if_ne (tgt := 46) hx hb dX5_settle_35 (by decide) (fun hc => ?_) (fun hc => ?_)
        · replace hF := it_f hF hc
          refine lv_aload_n hx hb dX5_settle_46 rfl (lv_at hl 1 rfl) ?_
          refine lv_aload_n hx hb dX5_settle_47 rfl (lv_at hl 0 rfl) ?_
          replace hF := ob2 hF
          obtain ⟨S11, P12, q13, hF⟩ := hF
          refine k_v (va_runV (As := [.ref (ad 2 t5)]) (rest := []) ⟨hx, hb, hml, hown, hts⟩ (c5_doBoardingTurn l t5 ht5 q13) (cwV 1 hts gX5_settle_X5_doBoardingTurn rfl rfl rfl (by decide +kernel) ⟨Nat.le_of_ble_eq_true rfl, Nat.le_of_ble_eq_true rfl⟩) (k_preV hW hK hN (hW.fx 5 rfl) (EE_5 cA ad S P M 0) rfl) rfl rfl hl.1 rfl (lv_room (Nat.le_of_ble_eq_true rfl)) dX5_settle_48 ⟨Nat.le_of_ble_eq_true rfl, Nat.le_of_ble_eq_true rfl⟩) hS ?_
          clear hW hS; intro H locs hW hS
          refine lv_aload_n hx hb dX5_settle_51 rfl (lv_at hl 0 rfl) ?_
          refine lv_dup hx hb dX5_settle_52 rfl ?_
          refine gn2_6 hx hb hts hi5_settle_2 hown hK hW ht5 (nf_18 hN) dX5_settle_53 ?_
          refine lv_aload_n hx hb dX5_settle_56 rfl (lv_at hl 0 rfl) ?_
          refine gn2_6 hx hb hts hi5_settle_2 hown hK hW ht5 (nf_18 hN) dX5_settle_57 ?_
          replace hF := lt_ex hF
          obtain ⟨x14, ex14, hF⟩ := hF
          have hJ : W p l e rm5_settle s m args below meth c H locs 0 0 (MQ below (Qi D cA z v (ad, N, S', P', M)) args s 0 0 (fun q => z ≤ q)) (F0 m 68 ls [.int x14, .int (S11 206 t5), .ref (ad 2 t5)]) := by
            refine lv_isub hx hb dX5_settle_68 ?_
            replace hF := lt_ex hF
            obtain ⟨S15, eS15, hF⟩ := hF
            refine pn2_6 hx hb hts hi5_settle_2 hown hK hW hS ht5 eS15 (nf_18 hN) dX5_settle_69 ?_
            clear hW hS; intro H locs hW hS
            exact hK72 S15 P12 _ _ _ hF hW hS (lv_sub hl [1, 2, 3, 0] rfl)
          refine lv_if_le (tgt := 67) hx hb dX5_settle_60 (by decide) (fun hc => ?_) (fun hc => ?_)
          · refine lv_iconst (v := (0 : Int32)) hx hb dX5_settle_67 (by decide) ?_
            exact W.eq (by rw [ex14, if_pos hc]) hJ
          · refine lv_iconst (v := (1 : Int32)) hx hb dX5_settle_63 (by decide) ?_
            refine lv_goto (tgt := 68) hx hb dX5_settle_64 (by decide) ?_
            exact W.eq (by rw [ex14, if_neg hc]) hJ
        · replace hF := it_t hF hc
          refine lv_aload_n hx hb dX5_settle_38 rfl (lv_at hl 1 rfl) ?_
          refine lv_aload_n hx hb dX5_settle_39 rfl (lv_at hl 0 rfl) ?_
          replace hF := ob2 hF
          obtain ⟨S16, P17, q18, hF⟩ := hF
          refine k_v (va_runV (As := [.ref (ad 2 t5)]) (rest := []) ⟨hx, hb, hml, hown, hts⟩ (c5_doRecallTurn l t5 ht5 q18) (cwV 1 hts gX5_settle_X5_doRecallTurn rfl rfl rfl (by decide +kernel) ⟨Nat.le_of_ble_eq_true rfl, Nat.le_of_ble_eq_true rfl⟩) (k_preV hW hK hN (hW.fx 5 rfl) (EE_5 cA ad S P M 0) rfl) rfl rfl hl.1 rfl (lv_room (Nat.le_of_ble_eq_true rfl)) dX5_settle_40 ⟨Nat.le_of_ble_eq_true rfl, Nat.le_of_ble_eq_true rfl⟩) hS ?_
          clear hW hS; intro H locs hW hS
          refine lv_goto (tgt := 72) hx hb dX5_settle_43 (by decide) ?_
          exact hK72 S16 P17 _ _ _ hF hW hS (lv_sub hl [1, 2, 3, 0] rfl)
      · subst hc
        replace hF := el_n hF
        replace hl : lv_has ls 4 [(3, .null), (0, .ref (ad 5 0)), (1, .int c1), (2, .int y2)] := hl
        refine lv_iload_n hx hb dX5_settle_29 rfl (lv_at hl 3 rfl) ?_
        obtain ⟨hq1, hq2⟩ := Prod.mk.inj (Option.some.inj hF)
        obtain ⟨hq2, hq3⟩ := Prod.mk.inj hq2
        subst hq1
        subst hq2
        subst hq3
        exact e_i hx hb hr hlk hK hN hW hS dX5_settle_30

set_option maxHeartbeats 4000000 in
set_option maxRecDepth 100000 in
theorem w5_settle {p : Program} {l : Launch} {e : Env} {s : State} {m : MethodId} {args : Array Value} {below : List Frame} {meth : Method} {c : Code} (C : MC p s m args meth c cX5_settle (some .int) 4 RX5 wsX5_settle) {D : va_G} {cA : Nat → ClassId} {z : Nat} {ad : Nat → Nat → Nat} {N : TN} (hK : va_K D vwCl (tysW cA) s) (hN : NW s) {S : TS} {P : TP} {M : TS} (a1 : Int32) {v : Int32} {S' : TS} {P' : TP} (hF : f5_settle S P a1 = some (v, S', P'))
    {H : Heap} {ls : Array Slot} (hW : Wd D cA z ad N S P M H) {locs : List Loc} (hS : va_S (fun q => z ≤ q) s.heap H locs) (hl : lv_has ls 4 [(0, .ref (ad 5 0)), (1, .int a1)]) : W p l e rm5_settle s m args below meth c H locs 0 0 (MQ below (Qi D cA z v (ad, N, S', P', M)) args s 0 0 (fun q => z ≤ q)) (F0 m 0 ls []) := by
  obtain ⟨hx, hb, hr, hml, hown, hts, hlk⟩ := id C
  unfold f5_settle at hF
  refine lv_iload_n hx hb dX5_settle_0 rfl (lv_at hl 1 rfl) ?_
  refine lv_iconst (v := (0 : Int32)) hx hb dX5_settle_1 (by decide) ?_
  refine lv_sipush (v := (500 : Int32)) hx hb dX5_settle_2 (by decide) ?_
  replace hF := ob hF
  obtain ⟨v1, q2, hF⟩ := hF
  refine k_i (va_runS (As := [.int a1, .int (0 : Int32), .int (500 : Int32)]) (rest := []) ⟨hx, hb, hml, hown, hts⟩ (c5_within l a1 (0 : Int32) (500 : Int32) q2) (va_cwS 3 hts gX5_settle_X5_within rfl rfl rfl (by decide +kernel) ⟨Nat.le_of_ble_eq_true rfl, Nat.le_of_ble_eq_true rfl⟩) (k_preS hW hK hN) rfl rfl hl.1 rfl (lv_room (Nat.le_of_ble_eq_true rfl)) dX5_settle_5 ⟨Nat.le_of_ble_eq_true rfl, Nat.le_of_ble_eq_true rfl⟩) hS ?_
  clear hW hS; intro H locs hW hS
  refine lv_if_ne (tgt := 13) hx hb dX5_settle_8 (by decide) (fun hc => ?_) (fun hc => ?_)
  · replace hF := it_f hF hc
    refine lv_iconst (v := (0 : Int32)) hx hb dX5_settle_13 (by decide) ?_
    refine lv_istore_n (lv' := [(2, .int (0 : Int32)), (0, .ref (ad 5 0)), (1, .int a1)]) hx hb dX5_settle_14 rfl hl (by decide) rfl ?_
    clear hl; intro ls hl
    refine w5_settle_15 C hK hN a1 (hE := ?_) FU S P (0 : Int32) _ _ _ hF hW hS (lv_sub hl [1, 2, 0] rfl)
    intro S19 P20 H locs ls hF hW hS hl
    refine lv_iload_n hx hb dX5_settle_83 rfl (lv_at hl 0 rfl) ?_
    obtain ⟨hq1, hq2⟩ := Prod.mk.inj (Option.some.inj hF)
    obtain ⟨hq2, hq3⟩ := Prod.mk.inj hq2
    subst hq1
    subst hq2
    subst hq3
    exact e_i hx hb hr hlk hK hN hW hS dX5_settle_84
  · replace hF := it_t hF hc
    refine lv_iconst (v := (-1 : Int32)) hx hb dX5_settle_11 (by decide) ?_
    obtain ⟨hq1, hq2⟩ := Prod.mk.inj (Option.some.inj hF)
    obtain ⟨hq2, hq3⟩ := Prod.mk.inj hq2
    subst hq1
    subst hq2
    subst hq3
    exact e_i hx hb hr hlk hK hN hW hS dX5_settle_12

set_option maxHeartbeats 4000000 in
set_option maxRecDepth 100000 in
theorem c5_settle (l : Launch) {D : va_G} {cA : Nat → ClassId} {z : Nat} {ad : Nat → Nat → Nat} {N : TN} {S : TS} {P : TP} {M : TS} (a1 : Int32) {v : Int32} {S' : TS} {P' : TP} (hF : f5_settle S P a1 = some (v, S', P')) : Met l yX5_settle wsX5_settle rm5_settle (va_Pc [.ref (ad 5 0), .int a1] (Wl D cA z (ad, N, S, P, M))) (Qi D cA z v (ad, N, S', P', M)) 0 0 (fun q => z ≤ q) := by
  refine Met.ofW (cc := cX5_settle) (maxL := 4) (ret := (some .int)) (by decide) rfl ?_
  intro p e s m args below meth c s₁ B hml hv
  obtain ⟨rfl, hW, hK, hN⟩ := hv
  have hl := lv_entry ([.ref (ad 5 0), .int a1]) (n := 4) (Nat.le_of_ble_eq_true rfl)
  rw [lg_entry_eq]
  generalize (lg_sl ([.ref (ad 5 0), .int a1]) ++ List.replicate (4 - (lg_sl ([.ref (ad 5 0), .int a1])).length) Slot.unset).toArray = ls at hl ⊢
  exact w5_settle ⟨B.exec, B.bytes, B.returns, hml, findClass_of_methodNamed B.named, atoms_spec (ws := wsX5_settle) B.pre, B.notSynchronized⟩ hK hN a1 hF hW va_S.rf hl

-- 5 shareOfTotal
abbrev rm5_shareOfTotal : Room := { frames := 0, cells := 0, slots := 0, locals := 0 }
def f5_shareOfTotal (S : TS) (P : TP) (a0 : Nat) (a1 : Int32) : Option (Int32) :=
  if a1 = 0 then
  (some (1 : Int32))
  else
  (if a1 = 1 then
  (some (S 402 a0))
  else
  (if a1 = 2 then
  (if (S 411 a0) = (-1 : Int32) then
  (some (0 : Int32))
  else
  (some (S 404 a0)))
  else
  (some (S 405 a0))))
set_option maxRecDepth 20000 in
theorem hi5_shareOfTotal_4 : ∀ w ∈ u_ws RX4 TX4 16, w ∈ wsX5_shareOfTotal := by decide +kernel
set_option maxHeartbeats 4000000 in
set_option maxRecDepth 100000 in
theorem w5_shareOfTotal {p : Program} {l : Launch} {e : Env} {s : State} {m : MethodId} {args : Array Value} {below : List Frame} {meth : Method} {c : Code} (C : MC p s m args meth c cX5_shareOfTotal (some .int) 2 RX5 wsX5_shareOfTotal) {D : va_G} {cA : Nat → ClassId} {z : Nat} {ad : Nat → Nat → Nat} {N : TN} (hK : va_K D vwCl (tysW cA) s) (hN : NW s) {S : TS} {P : TP} {M : TS} (a0 : Nat) (a1 : Int32) (ha0 : a0 < N 4) {v : Int32} (hF : f5_shareOfTotal S P a0 a1 = some v)
    {H : Heap} {ls : Array Slot} (hW : Wd D cA z ad N S P M H) {locs : List Loc} (hS : va_S (fun q => z ≤ q) s.heap H locs) (hl : lv_has ls 2 [(0, .ref (ad 4 a0)), (1, .int a1)]) : W p l e rm5_shareOfTotal s m args below meth c H locs 0 0 (MQ below (Qi D cA z v (ad, N, S, P, M)) args s 0 0 (fun q => z ≤ q)) (F0 m 0 ls []) := by
  obtain ⟨hx, hb, hr, hml, hown, hts, hlk⟩ := id C
  unfold f5_shareOfTotal at hF
  refine lv_iload_n hx hb dX5_shareOfTotal_0 rfl (lv_at hl 1 rfl) ?_
  by_cases hn0 : a1 = 0
  · replace hF := it_t hF hn0
    refine lv_tableIn (off := 27) (tgt := 28) hx hb dX5_shareOfTotal_1 (by rw [hn0]; decide) (by rw [hn0]; decide) (by rw [hn0]; rfl) (by decide) ?_
    refine lv_iconst (v := (1 : Int32)) hx hb dX5_shareOfTotal_28 (by decide) ?_
    have hq1 := Option.some.inj hF
    subst hq1
    exact e_i hx hb hr hlk hK hN hW hS dX5_shareOfTotal_29
  · replace hF := it_f hF hn0
    by_cases hn1 : a1 = 1
    · replace hF := it_t hF hn1
      refine lv_tableIn (off := 29) (tgt := 30) hx hb dX5_shareOfTotal_1 (by rw [hn1]; decide) (by rw [hn1]; decide) (by rw [hn1]; rfl) (by decide) ?_
      refine lv_aload_n hx hb dX5_shareOfTotal_30 rfl (lv_at hl 0 rfl) ?_
      refine gn4_2 hx hb hts hi5_shareOfTotal_4 hown hK hW ha0 (nf_24 hN) dX5_shareOfTotal_31 ?_
      have hq1 := Option.some.inj hF
      subst hq1
      exact e_i hx hb hr hlk hK hN hW hS dX5_shareOfTotal_34
    · replace hF := it_f hF hn1
      by_cases hn2 : a1 = 2
      · replace hF := it_t hF hn2
        refine lv_tableIn (off := 34) (tgt := 35) hx hb dX5_shareOfTotal_1 (by rw [hn2]; decide) (by rw [hn2]; decide) (by rw [hn2]; rfl) (by decide) ?_
        refine lv_aload_n hx hb dX5_shareOfTotal_35 rfl (lv_at hl 0 rfl) ?_
        refine gn4_11 hx hb hts hi5_shareOfTotal_4 hown hK hW ha0 (nf_34 hN) dX5_shareOfTotal_36 ?_
        refine lv_iconst (v := (-1 : Int32)) hx hb dX5_shareOfTotal_39 (by decide) ?_
        refine lv_icmp_ne (tgt := 47) hx hb dX5_shareOfTotal_40 (by decide) (fun hc => ?_) (fun hc => ?_)
        · replace hF := it_f hF hc
          refine lv_aload_n hx hb dX5_shareOfTotal_47 rfl (lv_at hl 0 rfl) ?_
          refine gn4_4 hx hb hts hi5_shareOfTotal_4 hown hK hW ha0 (nf_26 hN) dX5_shareOfTotal_48 ?_
          have hq1 := Option.some.inj hF
          subst hq1
          exact e_i hx hb hr hlk hK hN hW hS dX5_shareOfTotal_51
        · replace hF := it_t hF hc
          refine lv_iconst (v := (0 : Int32)) hx hb dX5_shareOfTotal_43 (by decide) ?_
          refine lv_goto (tgt := 51) hx hb dX5_shareOfTotal_44 (by decide) ?_
          have hq1 := Option.some.inj hF
          subst hq1
          exact e_i hx hb hr hlk hK hN hW hS dX5_shareOfTotal_51
      · replace hF := it_f hF hn2
        have hq0 := sw_ne hn0 (n := 0) (by decide)
        have hq1 := sw_ne hn1 (n := 1) (by decide)
        have hq2 := sw_ne hn2 (n := 2) (by decide)
        refine lv_tableOut (tgt := 52) hx hb dX5_shareOfTotal_1 (by omega) (by decide) ?_
        refine lv_aload_n hx hb dX5_shareOfTotal_52 rfl (lv_at hl 0 rfl) ?_
        refine gn4_5 hx hb hts hi5_shareOfTotal_4 hown hK hW ha0 (nf_27 hN) dX5_shareOfTotal_53 ?_
        have hq1 := Option.some.inj hF
        subst hq1
        exact e_i hx hb hr hlk hK hN hW hS dX5_shareOfTotal_56

set_option maxHeartbeats 4000000 in
set_option maxRecDepth 100000 in
theorem c5_shareOfTotal (l : Launch) {D : va_G} {cA : Nat → ClassId} {z : Nat} {ad : Nat → Nat → Nat} {N : TN} {S : TS} {P : TP} {M : TS} (a0 : Nat) (a1 : Int32) (ha0 : a0 < N 4) {v : Int32} (hF : f5_shareOfTotal S P a0 a1 = some v) : Met l yX5_shareOfTotal wsX5_shareOfTotal rm5_shareOfTotal (va_Pc [.ref (ad 4 a0), .int a1] (Wl D cA z (ad, N, S, P, M))) (Qi D cA z v (ad, N, S, P, M)) 0 0 (fun q => z ≤ q) := by
  refine Met.ofW (cc := cX5_shareOfTotal) (maxL := 2) (ret := (some .int)) (by decide) rfl ?_
  intro p e s m args below meth c s₁ B hml hv
  obtain ⟨rfl, hW, hK, hN⟩ := hv
  have hl := lv_entry ([.ref (ad 4 a0), .int a1]) (n := 2) (Nat.le_of_ble_eq_true rfl)
  rw [lg_entry_eq]
  generalize (lg_sl ([.ref (ad 4 a0), .int a1]) ++ List.replicate (2 - (lg_sl ([.ref (ad 4 a0), .int a1])).length) Slot.unset).toArray = ls at hl ⊢
  exact w5_shareOfTotal ⟨B.exec, B.bytes, B.returns, hml, findClass_of_methodNamed B.named, atoms_spec (ws := wsX5_shareOfTotal) B.pre, B.notSynchronized⟩ hK hN a0 a1 ha0 hF hW va_S.rf hl

-- 5 ship
abbrev rm5_ship : Room := { frames := 2, cells := 2, slots := 32, locals := 45 }
def f5_ship (S : TS) (P : TP) (N : TN) (a1 : Int32) (a2 : Int32) (a3 : Int32) (a4 : Int32) : Option (Int32 × TS × TP × TN) :=
  if (12 : Int32) ≤ (S 501 0) then
  (some ((-1 : Int32), S, P, N))
  else
  ((f5_within a1 (1 : Int32) (4 : Int32)).bind fun (v1 : Int32) =>
  if v1 = 0 then
  (some ((-1 : Int32), S, P, N))
  else
  ((f5_within a2 (1 : Int32) (6 : Int32)).bind fun (v3 : Int32) =>
  if v3 = 0 then
  (some ((-1 : Int32), S, P, N))
  else
  ((f5_within a3 (50 : Int32) (2000 : Int32)).bind fun (v5 : Int32) =>
  if v5 = 0 then
  (some ((-1 : Int32), S, P, N))
  else
  (lt (lt (upN N 3) fun (N7 : TN) =>
  lt (clr S 3 (N 3)) fun (S8 : TS) =>
  lt (clrP P 3 (N 3)) fun (P9 : TP) =>
  b3 (f3_init S8 P9 N7 (N 3) (S8 501 0) a1 a2 a3 a4) fun (S12 : TS) (P13 : TP) (N14 : TN) =>
  (ix (S 501 0) 12).bind fun (j17 : Nat) =>
  lt (up3 P13 700 0 j17 (some (N 3))) fun (P18 : TP) =>
  lt (up S12 501 0 ((S12 501 0) + (1 : Int32))) fun (S19 : TS) =>
  some ((S12 501 0), S19, P18, N14)) fun (K62 : Option (Int32 × TS × TP × TN)) =>
  if a4 = 0 then
  (K62)
  else
  (if a1 < (2 : Int32) then
  (some ((-1 : Int32), S, P, N))
  else
  (if (2 : Int32) ≤ a2 then
  (K62)
  else
  (some ((-1 : Int32), S, P, N))))))))
set_option maxRecDepth 20000 in
theorem hi5_ship_3 : ∀ w ∈ u_ws RX3 TX3 8, w ∈ wsX5_ship := by decide +kernel
set_option maxRecDepth 20000 in
theorem hi5_ship_5 : ∀ w ∈ u_ws RX5 TX5 12, w ∈ wsX5_ship := by decide +kernel
set_option maxHeartbeats 4000000 in
set_option maxRecDepth 100000 in
theorem w5_ship {p : Program} {l : Launch} {e : Env} {s : State} {m : MethodId} {args : Array Value} {below : List Frame} {meth : Method} {c : Code} (C : MC p s m args meth c cX5_ship (some .int) 5 RX5 wsX5_ship) {D : va_G} {cA : Nat → ClassId} {z : Nat} {ad : Nat → Nat → Nat} {N : TN} (hK : va_K D vwCl (tysW cA) s) (hN : NW s) {S : TS} {P : TP} {M : TS} (a1 : Int32) (a2 : Int32) (a3 : Int32) (a4 : Int32) {v : Int32} {S' : TS} {P' : TP} {N' : TN} (hF : f5_ship S P N a1 a2 a3 a4 = some (v, S', P', N'))
    {H : Heap} {ls : Array Slot} (hW : Wd D cA z ad N S P M H) {locs : List Loc} (hS : va_S (fun q => z ≤ q) s.heap H locs) (hl : lv_has ls 5 [(0, .ref (ad 5 0)), (1, .int a1), (2, .int a2), (3, .int a3), (4, .int a4)]) : W p l e rm5_ship s m args below meth c H locs 0 0 (MQ below (Qia D cA z ad N v N' S' P' M) args s 2 32 (fun q => z ≤ q)) (F0 m 0 ls []) := by
  obtain ⟨hx, hb, hr, hml, hown, hts, hlk⟩ := id C
  unfold f5_ship at hF
  refine lv_aload_n hx hb dX5_ship_0 rfl (lv_at hl 0 rfl) ?_
  refine g5_1 hx hb hts hi5_ship_5 hown hK hW (hts (.fieldLink RX5 43 RX5 "shipCount" "I") (by decide +kernel)) dX5_ship_1 ?_
  refine lv_aload_n hx hb dX5_ship_4 rfl (lv_at hl 0 rfl) ?_
  refine g5_0 hx hb hts hi5_ship_5 hown hK hW (hts (.fieldLink RX5 11 RX5 "ships" "[LFerryTerminal$Ship;") (by decide +kernel)) dX5_ship_5 ?_
  refine n7 hx hb hK hW dX5_ship_8 ?_
  refine lv_icmp_ge (tgt := 43) hx hb dX5_ship_9 (by decide) (fun hc => ?_) (fun hc => ?_)
  · replace hF := it_t hF hc
    refine lv_iconst (v := (-1 : Int32)) hx hb dX5_ship_43 (by decide) ?_
    obtain ⟨hq1, hq2⟩ := Prod.mk.inj (Option.some.inj hF)
    obtain ⟨hq2, hq3⟩ := Prod.mk.inj hq2
    obtain ⟨hq3, hq4⟩ := Prod.mk.inj hq3
    subst hq1
    subst hq2
    subst hq3
    subst hq4
    refine W.widen (k := 2) (n := 32) (by decide) (by decide) ?_
    exact e_ia hx hb hr hlk hK hN hW hS  (fun _ _ _ => rfl) (fun _ => Nat.le_refl _) dX5_ship_44
  · replace hF := it_f hF hc
    refine lv_iload_n hx hb dX5_ship_12 rfl (lv_at hl 1 rfl) ?_
    refine lv_iconst (v := (1 : Int32)) hx hb dX5_ship_13 (by decide) ?_
    refine lv_iconst (v := (4 : Int32)) hx hb dX5_ship_14 (by decide) ?_
    replace hF := ob hF
    obtain ⟨v1, q2, hF⟩ := hF
    refine k_i (va_runS (As := [.int a1, .int (1 : Int32), .int (4 : Int32)]) (rest := []) ⟨hx, hb, hml, hown, hts⟩ (c5_within l a1 (1 : Int32) (4 : Int32) q2) (va_cwS 3 hts gX5_ship_X5_within rfl rfl rfl (by decide +kernel) ⟨Nat.le_of_ble_eq_true rfl, Nat.le_of_ble_eq_true rfl⟩) (k_preS hW hK hN) rfl rfl hl.1 rfl (lv_room (Nat.le_of_ble_eq_true rfl)) dX5_ship_15 ⟨Nat.le_of_ble_eq_true rfl, Nat.le_of_ble_eq_true rfl⟩) hS ?_
    clear hW hS; intro H locs hW hS
    refine lv_if_eq (tgt := 43) hx hb dX5_ship_18 (by decide) (fun hc => ?_) (fun hc => ?_)
    · replace hF := it_t hF hc
      refine lv_iconst (v := (-1 : Int32)) hx hb dX5_ship_43 (by decide) ?_
      obtain ⟨hq1, hq2⟩ := Prod.mk.inj (Option.some.inj hF)
      obtain ⟨hq2, hq3⟩ := Prod.mk.inj hq2
      obtain ⟨hq3, hq4⟩ := Prod.mk.inj hq3
      subst hq1
      subst hq2
      subst hq3
      subst hq4
      refine W.widen (k := 2) (n := 32) (by decide) (by decide) ?_
      exact e_ia hx hb hr hlk hK hN hW hS  (fun _ _ _ => rfl) (fun _ => Nat.le_refl _) dX5_ship_44
    · replace hF := it_f hF hc
      refine lv_iload_n hx hb dX5_ship_21 rfl (lv_at hl 2 rfl) ?_
      refine lv_iconst (v := (1 : Int32)) hx hb dX5_ship_22 (by decide) ?_
      refine lv_bipush (v := (6 : Int32)) hx hb dX5_ship_23 (by decide) ?_
      replace hF := ob hF
      obtain ⟨v3, q4, hF⟩ := hF
      refine k_i (va_runS (As := [.int a2, .int (1 : Int32), .int (6 : Int32)]) (rest := []) ⟨hx, hb, hml, hown, hts⟩ (c5_within l a2 (1 : Int32) (6 : Int32) q4) (va_cwS 3 hts gX5_ship_X5_within rfl rfl rfl (by decide +kernel) ⟨Nat.le_of_ble_eq_true rfl, Nat.le_of_ble_eq_true rfl⟩) (k_preS hW hK hN) rfl rfl hl.1 rfl (lv_room (Nat.le_of_ble_eq_true rfl)) dX5_ship_25 ⟨Nat.le_of_ble_eq_true rfl, Nat.le_of_ble_eq_true rfl⟩) hS ?_
      clear hW hS; intro H locs hW hS
      refine lv_if_eq (tgt := 43) hx hb dX5_ship_28 (by decide) (fun hc => ?_) (fun hc => ?_)
      · replace hF := it_t hF hc
        refine lv_iconst (v := (-1 : Int32)) hx hb dX5_ship_43 (by decide) ?_
        obtain ⟨hq1, hq2⟩ := Prod.mk.inj (Option.some.inj hF)
        obtain ⟨hq2, hq3⟩ := Prod.mk.inj hq2
        obtain ⟨hq3, hq4⟩ := Prod.mk.inj hq3
        subst hq1
        subst hq2
        subst hq3
        subst hq4
        refine W.widen (k := 2) (n := 32) (by decide) (by decide) ?_
        exact e_ia hx hb hr hlk hK hN hW hS  (fun _ _ _ => rfl) (fun _ => Nat.le_refl _) dX5_ship_44
      · replace hF := it_f hF hc
        refine lv_iload_n hx hb dX5_ship_31 rfl (lv_at hl 3 rfl) ?_
        refine lv_bipush (v := (50 : Int32)) hx hb dX5_ship_32 (by decide) ?_
        refine lv_sipush (v := (2000 : Int32)) hx hb dX5_ship_34 (by decide) ?_
        replace hF := ob hF
        obtain ⟨v5, q6, hF⟩ := hF
        refine k_i (va_runS (As := [.int a3, .int (50 : Int32), .int (2000 : Int32)]) (rest := []) ⟨hx, hb, hml, hown, hts⟩ (c5_within l a3 (50 : Int32) (2000 : Int32) q6) (va_cwS 3 hts gX5_ship_X5_within rfl rfl rfl (by decide +kernel) ⟨Nat.le_of_ble_eq_true rfl, Nat.le_of_ble_eq_true rfl⟩) (k_preS hW hK hN) rfl rfl hl.1 rfl (lv_room (Nat.le_of_ble_eq_true rfl)) dX5_ship_37 ⟨Nat.le_of_ble_eq_true rfl, Nat.le_of_ble_eq_true rfl⟩) hS ?_
        clear hW hS; intro H locs hW hS
        refine lv_if_ne (tgt := 45) hx hb dX5_ship_40 (by decide) (fun hc => ?_) (fun hc => ?_)
        · replace hF := it_f hF hc
          refine lv_iload hx hb dX5_ship_45 (lv_at hl 4 rfl) ?_
          replace hF := lt_ex hF
          obtain ⟨K62, eK62, hF⟩ := hF
          have hK62 : ∀ (H : Heap) (locs : List Loc) (ls : Array Slot), K62 = some (v, S', P', N') → Wd D cA z ad N S P M H → va_S (fun q => z ≤ q) s.heap H locs → lv_has ls 5 [(0, .ref (ad 5 0)), (1, .int a1), (2, .int a2), (3, .int a3), (4, .int a4)] → W p l e rm5_ship s m args below meth c H locs 0 0 (MQ below (Qia D cA z ad N v N' S' P' M) args s 2 32 (fun q => z ≤ q)) (F0 m 62 ls []) := by
            intro H locs ls hF hW hS hl
            subst eK62
            refine lv_aload_n hx hb dX5_ship_62 rfl (lv_at hl 0 rfl) ?_
            refine g5_0 hx hb hts hi5_ship_5 hown hK hW (hts (.fieldLink RX5 11 RX5 "ships" "[LFerryTerminal$Ship;") (by decide +kernel)) dX5_ship_63 ?_
            refine lv_aload_n hx hb dX5_ship_66 rfl (lv_at hl 0 rfl) ?_
            refine g5_1 hx hb hts hi5_ship_5 hown hK hW (hts (.fieldLink RX5 43 RX5 "shipCount" "I") (by decide +kernel)) dX5_ship_67 ?_
            replace hF := lt_ex hF
            obtain ⟨N7, eN7, hF⟩ := hF
            replace hF := lt_ex hF
            obtain ⟨S8, eS8, hF⟩ := hF
            replace hF := lt_ex hF
            obtain ⟨P9, eP9, hF⟩ := hF
            have h0fx := hW
            refine r_new (k := 3) (fs := [.int 0, .int 0, .int 0, .int 0, .int 0, .int 0, .int 0, .null]) (C := RX3) (T := TX3) (Nf := 8) hx hb hts hi5_ship_3 tyX3 tyX3_ok hown (hts (.classLink RX5 9 RX3) (by decide +kernel)) (hts (.instantiable RX3 8) (by decide +kernel)) (hts (.initialized RX3) (by decide +kernel)) hK hW hS rfl (by decide) (fun j hj => by rcases (show j = 0 ∨ j = 1 ∨ j = 2 ∨ j = 3 ∨ j = 4 ∨ j = 5 ∨ j = 6 ∨ j = 7 by omega) with rfl | rfl | rfl | rfl | rfl | rfl | rfl | rfl <;> rfl) (fun ad' => by rw [EE_3]; simp [clr, clrP, va_rf]) eN7 eS8 eP9 (Nat.le_of_ble_eq_true rfl) (Nat.le_of_ble_eq_true rfl) dX5_ship_70 (fun H ad10 hgad10 hmad10 hW hS => ?_)
            have eaad10_0 : ad 7 0 = ad10 7 0 := (hgad10 _ _ (h0fx.fx 7 rfl)).symm
            have eaad10_1 : ad 5 0 = ad10 5 0 := (hgad10 _ _ (h0fx.fx 5 rfl)).symm
            try rw [eaad10_0] at hl
            try rw [eaad10_1] at hl
            have hg_ad10 : ∀ k i, i < N k → ad10 k i = ad k i := fun k i h => (hgad10 k i (Nat.lt_of_lt_of_le h ((fun _ => Nat.le_refl _) k))).trans ((fun _ _ _ => rfl) k i h)
            have hmm_ad10 : ∀ k, N k ≤ N7 k := fun k => Nat.le_trans ((fun _ => Nat.le_refl _) k) (hmad10 k)
            have hn11 : N 3 < N7 3 := by rw [eN7]; exact upN_lt
            refine W.eq (g2 := F0 m 73 ls [.ref (ad10 3 (N 3)), .int (S 501 0), .ref (ad10 7 0)]) (by first | rfl | (rw [eaad10_0]; try rfl)) ?_
            refine lv_dup hx hb dX5_ship_73 rfl ?_
            refine lv_aload_n hx hb dX5_ship_74 rfl (lv_at hl 0 rfl) ?_
            refine g5_1 hx hb hts hi5_ship_5 hown hK hW (hts (.fieldLink RX5 43 RX5 "shipCount" "I") (by decide +kernel)) dX5_ship_75 ?_
            refine lv_iload_n hx hb dX5_ship_78 rfl (lv_at hl 1 rfl) ?_
            refine lv_iload_n hx hb dX5_ship_79 rfl (lv_at hl 2 rfl) ?_
            refine lv_iload_n hx hb dX5_ship_80 rfl (lv_at hl 3 rfl) ?_
            refine lv_iload hx hb dX5_ship_81 (lv_at hl 4 rfl) ?_
            replace hF := ob3 hF
            obtain ⟨S12, P13, N14, q15, hF⟩ := hF
            have h0fx := hW
            refine k_va (va_runIN (b := ad10 3 (N 3)) (As := [.int (S8 501 0), .int a1, .int a2, .int a3, .int a4]) (rest := [.ref (ad10 3 (N 3)), .int (S 501 0), .ref (ad10 7 0)]) ⟨hx, hb, hml, hown, hts⟩ (c3_init l (N 3) (S8 501 0) a1 a2 a3 a4 hn11 q15) ⟨va_cnB 5 hts gX5_ship_X3_init_n51 rfl rfl rfl (nm_0 hN) (hts (.initialized RX3) (by decide +kernel)) (by decide +kernel) ⟨Nat.le_of_ble_eq_true rfl, Nat.le_of_ble_eq_true rfl⟩, rfl, hts (.instanceMethod yX3_init) (by decide +kernel)⟩ (k_preS hW hK hN) rfl rfl hl.1 rfl (lv_room (Nat.le_of_ble_eq_true rfl)) dX5_ship_83 ⟨Nat.le_of_ble_eq_true rfl, Nat.le_of_ble_eq_true rfl⟩) hS (fun H locs ad16 hgad16 hmad16 hW hS => ?_)
            have eaad16_0 : ad10 7 0 = ad16 7 0 := (hgad16 _ _ (h0fx.fx 7 rfl)).symm
            have eaad16_1 : ad10 3 (N 3) = ad16 3 (N 3) := (hgad16 _ _ hn11).symm
            have haad16_1 : (N 3) < N14 3 := Nat.lt_of_lt_of_le hn11 (hmad16 3)
            have eaad16_2 : ad10 5 0 = ad16 5 0 := (hgad16 _ _ (h0fx.fx 5 rfl)).symm
            try rw [eaad16_0] at hl
            try rw [eaad16_1] at hl
            try rw [eaad16_2] at hl
            have hg_ad16 : ∀ k i, i < N k → ad16 k i = ad k i := fun k i h => (hgad16 k i (Nat.lt_of_lt_of_le h (hmm_ad10 k))).trans (hg_ad10 k i h)
            have hmm_ad16 : ∀ k, N k ≤ N14 k := fun k => Nat.le_trans (hmm_ad10 k) (hmad16 k)
            refine W.eq (g2 := F0 m 86 ls [.ref (ad16 3 (N 3)), .int (S 501 0), .ref (ad16 7 0)]) (by first | rfl | (rw [eaad16_0, eaad16_1]; try rfl)) ?_
            replace hF := ob hF
            obtain ⟨j17, ej17, hF⟩ := hF
            replace hF := lt_ex hF
            obtain ⟨P18, eP18, hF⟩ := hF
            refine t7 (r := (some (N 3))) hx hb hK hW hS ej17 (q_some haad16_1) eP18 dX5_ship_86 ?_
            clear hW hS; intro H locs hW hS
            refine lv_aload_n hx hb dX5_ship_87 rfl (lv_at hl 0 rfl) ?_
            refine lv_dup hx hb dX5_ship_88 rfl ?_
            refine g5_1 hx hb hts hi5_ship_5 hown hK hW (hts (.fieldLink RX5 43 RX5 "shipCount" "I") (by decide +kernel)) dX5_ship_89 ?_
            refine lv_dup_x1 hx hb dX5_ship_92 rfl rfl ?_
            refine lv_iconst (v := (1 : Int32)) hx hb dX5_ship_93 (by decide) ?_
            refine lv_iadd hx hb dX5_ship_94 ?_
            replace hF := lt_ex hF
            obtain ⟨S19, eS19, hF⟩ := hF
            refine p5_1 hx hb hts hi5_ship_5 hown hK hW hS eS19 (hts (.fieldLink RX5 43 RX5 "shipCount" "I") (by decide +kernel)) dX5_ship_95 ?_
            clear hW hS; intro H locs hW hS
            obtain ⟨hq1, hq2⟩ := Prod.mk.inj (Option.some.inj hF)
            obtain ⟨hq2, hq3⟩ := Prod.mk.inj hq2
            obtain ⟨hq3, hq4⟩ := Prod.mk.inj hq3
            subst hq1
            subst hq2
            subst hq3
            subst hq4
            exact e_ia hx hb hr hlk hK hN hW hS  hg_ad16 hmm_ad16 dX5_ship_98
          clear eK62
          refine lv_if_eq (tgt := 62) hx hb dX5_ship_47 (by decide) (fun hc => ?_) (fun hc => ?_)
          · replace hF := it_t hF hc
            exact hK62 _ _ _ hF hW hS (lv_sub hl [0, 1, 2, 3, 4] rfl)
          · replace hF := it_f hF hc
            refine lv_iload_n hx hb dX5_ship_50 rfl (lv_at hl 1 rfl) ?_
            refine lv_iconst (v := (2 : Int32)) hx hb dX5_ship_51 (by decide) ?_
            refine lv_icmp_lt (tgt := 60) hx hb dX5_ship_52 (by decide) (fun hc => ?_) (fun hc => ?_)
            · replace hF := it_t hF hc
              refine lv_iconst (v := (-1 : Int32)) hx hb dX5_ship_60 (by decide) ?_
              obtain ⟨hq1, hq2⟩ := Prod.mk.inj (Option.some.inj hF)
              obtain ⟨hq2, hq3⟩ := Prod.mk.inj hq2
              obtain ⟨hq3, hq4⟩ := Prod.mk.inj hq3
              subst hq1
              subst hq2
              subst hq3
              subst hq4
              refine W.widen (k := 2) (n := 32) (by decide) (by decide) ?_
              exact e_ia hx hb hr hlk hK hN hW hS  (fun _ _ _ => rfl) (fun _ => Nat.le_refl _) dX5_ship_61
            · replace hF := it_f hF hc
              refine lv_iload_n hx hb dX5_ship_55 rfl (lv_at hl 2 rfl) ?_
              refine lv_iconst (v := (2 : Int32)) hx hb dX5_ship_56 (by decide) ?_
              refine lv_icmp_ge (tgt := 62) hx hb dX5_ship_57 (by decide) (fun hc => ?_) (fun hc => ?_)
              · replace hF := it_t hF hc
                exact hK62 _ _ _ hF hW hS (lv_sub hl [0, 1, 2, 3, 4] rfl)
              · replace hF := it_f hF hc
                refine lv_iconst (v := (-1 : Int32)) hx hb dX5_ship_60 (by decide) ?_
                obtain ⟨hq1, hq2⟩ := Prod.mk.inj (Option.some.inj hF)
                obtain ⟨hq2, hq3⟩ := Prod.mk.inj hq2
                obtain ⟨hq3, hq4⟩ := Prod.mk.inj hq3
                subst hq1
                subst hq2
                subst hq3
                subst hq4
                refine W.widen (k := 2) (n := 32) (by decide) (by decide) ?_
                exact e_ia hx hb hr hlk hK hN hW hS  (fun _ _ _ => rfl) (fun _ => Nat.le_refl _) dX5_ship_61
        · replace hF := it_t hF hc
          refine lv_iconst (v := (-1 : Int32)) hx hb dX5_ship_43 (by decide) ?_
          obtain ⟨hq1, hq2⟩ := Prod.mk.inj (Option.some.inj hF)
          obtain ⟨hq2, hq3⟩ := Prod.mk.inj hq2
          obtain ⟨hq3, hq4⟩ := Prod.mk.inj hq3
          subst hq1
          subst hq2
          subst hq3
          subst hq4
          refine W.widen (k := 2) (n := 32) (by decide) (by decide) ?_
          exact e_ia hx hb hr hlk hK hN hW hS  (fun _ _ _ => rfl) (fun _ => Nat.le_refl _) dX5_ship_44

set_option maxHeartbeats 4000000 in
set_option maxRecDepth 100000 in
theorem c5_ship (l : Launch) {D : va_G} {cA : Nat → ClassId} {z : Nat} {ad : Nat → Nat → Nat} {N : TN} {S : TS} {P : TP} {M : TS} (a1 : Int32) (a2 : Int32) (a3 : Int32) (a4 : Int32) {v : Int32} {S' : TS} {P' : TP} {N' : TN} (hF : f5_ship S P N a1 a2 a3 a4 = some (v, S', P', N')) : Met l yX5_ship wsX5_ship rm5_ship (va_Pc [.ref (ad 5 0), .int a1, .int a2, .int a3, .int a4] (Wl D cA z (ad, N, S, P, M))) (Qia D cA z ad N v N' S' P' M) 2 32 (fun q => z ≤ q) := by
  refine Met.ofW (cc := cX5_ship) (maxL := 5) (ret := (some .int)) (by decide) rfl ?_
  intro p e s m args below meth c s₁ B hml hv
  obtain ⟨rfl, hW, hK, hN⟩ := hv
  have hl := lv_entry ([.ref (ad 5 0), .int a1, .int a2, .int a3, .int a4]) (n := 5) (Nat.le_of_ble_eq_true rfl)
  rw [lg_entry_eq]
  generalize (lg_sl ([.ref (ad 5 0), .int a1, .int a2, .int a3, .int a4]) ++ List.replicate (5 - (lg_sl ([.ref (ad 5 0), .int a1, .int a2, .int a3, .int a4])).length) Slot.unset).toArray = ls at hl ⊢
  exact w5_ship ⟨B.exec, B.bytes, B.returns, hml, findClass_of_methodNamed B.named, atoms_spec (ws := wsX5_ship) B.pre, B.notSynchronized⟩ hK hN a1 a2 a3 a4 hF hW va_S.rf hl

-- 5 shipOf
abbrev rm5_shipOf : Room := { frames := 2, cells := 0, slots := 0, locals := 43 }
def f5_shipOf (S : TS) (P : TP) (a1 : Int32) (a2 : Int32) : Option (Int32) :=
  (f5_shipNumbered S P a1).bind fun (r1 : Option Nat) =>
  r1.elim (some (-1 : Int32))
  (fun (t3 : Nat) => if a2 = 0 then
  (some (S 301 t3))
  else
  (if a2 = 1 then
  (some (S 302 t3))
  else
  (if a2 = 2 then
  (some (S 303 t3))
  else
  (if a2 = 3 then
  (if (S 304 t3) = 0 then
  (some (0 : Int32))
  else
  (some (1 : Int32)))
  else
  (if a2 = 4 then
  (some (S 305 t3))
  else
  (if a2 = 5 then
  (some (S 306 t3))
  else
  (some (-1 : Int32))))))))
set_option maxRecDepth 20000 in
theorem hi5_shipOf_3 : ∀ w ∈ u_ws RX3 TX3 8, w ∈ wsX5_shipOf := by decide +kernel
set_option maxHeartbeats 4000000 in
set_option maxRecDepth 100000 in
theorem w5_shipOf {p : Program} {l : Launch} {e : Env} {s : State} {m : MethodId} {args : Array Value} {below : List Frame} {meth : Method} {c : Code} (C : MC p s m args meth c cX5_shipOf (some .int) 4 RX5 wsX5_shipOf) {D : va_G} {cA : Nat → ClassId} {z : Nat} {ad : Nat → Nat → Nat} {N : TN} (hK : va_K D vwCl (tysW cA) s) (hN : NW s) {S : TS} {P : TP} {M : TS} (a1 : Int32) (a2 : Int32) {v : Int32} (hF : f5_shipOf S P a1 a2 = some v)
    {H : Heap} {ls : Array Slot} (hW : Wd D cA z ad N S P M H) {locs : List Loc} (hS : va_S (fun q => z ≤ q) s.heap H locs) (hl : lv_has ls 4 [(0, .ref (ad 5 0)), (1, .int a1), (2, .int a2)]) : W p l e rm5_shipOf s m args below meth c H locs 0 0 (MQ below (Qi D cA z v (ad, N, S, P, M)) args s 0 0 (fun q => z ≤ q)) (F0 m 0 ls []) := by
  obtain ⟨hx, hb, hr, hml, hown, hts, hlk⟩ := id C
  unfold f5_shipOf at hF
  refine lv_aload_n hx hb dX5_shipOf_0 rfl (lv_at hl 0 rfl) ?_
  refine lv_iload_n hx hb dX5_shipOf_1 rfl (lv_at hl 1 rfl) ?_
  replace hF := ob hF
  obtain ⟨r1, q2, hF⟩ := hF
  refine k_q (va_runV (As := [.int a1]) (rest := []) ⟨hx, hb, hml, hown, hts⟩ (c5_shipNumbered l a1 q2) (cwV 1 hts gX5_shipOf_X5_shipNumbered rfl rfl rfl (by decide +kernel) ⟨Nat.le_of_ble_eq_true rfl, Nat.le_of_ble_eq_true rfl⟩) (k_preV hW hK hN (hW.fx 5 rfl) (EE_5 cA ad S P M 0) rfl) rfl rfl hl.1 rfl (lv_room (Nat.le_of_ble_eq_true rfl)) dX5_shipOf_2 ⟨Nat.le_of_ble_eq_true rfl, Nat.le_of_ble_eq_true rfl⟩) hS (fun H locs hW hS hr1 => ?_)
  refine q_astore_n (lv' := [(3, va_rf (r1.map (ad 3))), (0, .ref (ad 5 0)), (1, .int a1), (2, .int a2)]) hx hb dX5_shipOf_5 rfl hl (by decide) rfl ?_
  clear hl; intro ls hl
  refine q_aload_n hx hb dX5_shipOf_6 rfl (lv_at hl 0 rfl) ?_
  refine q_ifnonnull (tgt := 12) hx hb dX5_shipOf_7 (by decide) (fun t3 hc => ?_) (fun hc => ?_)
  · subst hc
    replace hF := el_s hF
    have ht3 := hr1 t3 rfl
    replace hl : lv_has ls 4 [(3, .ref (ad 3 t3)), (0, .ref (ad 5 0)), (1, .int a1), (2, .int a2)] := hl
    refine lv_iload_n hx hb dX5_shipOf_12 rfl (lv_at hl 3 rfl) ?_
    by_cases hn0 : a2 = 0
    · replace hF := it_t hF hn0
      refine lv_tableIn (off := 39) (tgt := 52) hx hb dX5_shipOf_13 (by rw [hn0]; decide) (by rw [hn0]; decide) (by rw [hn0]; rfl) (by decide) ?_
      refine lv_aload_n hx hb dX5_shipOf_52 rfl (lv_at hl 0 rfl) ?_
      refine gn3_1 hx hb hts hi5_shipOf_3 hown hK hW ht3 (nf_1 hN) dX5_shipOf_53 ?_
      have hq1 := Option.some.inj hF
      subst hq1
      exact e_i hx hb hr hlk hK hN hW hS dX5_shipOf_56
    · replace hF := it_f hF hn0
      by_cases hn1 : a2 = 1
      · replace hF := it_t hF hn1
        refine lv_tableIn (off := 44) (tgt := 57) hx hb dX5_shipOf_13 (by rw [hn1]; decide) (by rw [hn1]; decide) (by rw [hn1]; rfl) (by decide) ?_
        refine lv_aload_n hx hb dX5_shipOf_57 rfl (lv_at hl 0 rfl) ?_
        refine gn3_2 hx hb hts hi5_shipOf_3 hown hK hW ht3 (nf_2 hN) dX5_shipOf_58 ?_
        have hq1 := Option.some.inj hF
        subst hq1
        exact e_i hx hb hr hlk hK hN hW hS dX5_shipOf_61
      · replace hF := it_f hF hn1
        by_cases hn2 : a2 = 2
        · replace hF := it_t hF hn2
          refine lv_tableIn (off := 49) (tgt := 62) hx hb dX5_shipOf_13 (by rw [hn2]; decide) (by rw [hn2]; decide) (by rw [hn2]; rfl) (by decide) ?_
          refine lv_aload_n hx hb dX5_shipOf_62 rfl (lv_at hl 0 rfl) ?_
          refine gn3_3 hx hb hts hi5_shipOf_3 hown hK hW ht3 (nf_3 hN) dX5_shipOf_63 ?_
          have hq1 := Option.some.inj hF
          subst hq1
          exact e_i hx hb hr hlk hK hN hW hS dX5_shipOf_66
        · replace hF := it_f hF hn2
          by_cases hn3 : a2 = 3
          · replace hF := it_t hF hn3
            refine lv_tableIn (off := 54) (tgt := 67) hx hb dX5_shipOf_13 (by rw [hn3]; decide) (by rw [hn3]; decide) (by rw [hn3]; rfl) (by decide) ?_
            refine lv_aload_n hx hb dX5_shipOf_67 rfl (lv_at hl 0 rfl) ?_
            refine gn3_4 hx hb hts hi5_shipOf_3 hown hK hW ht3 (nf_4 hN) dX5_shipOf_68 ?_
            refine lv_if_eq (tgt := 78) hx hb dX5_shipOf_71 (by decide) (fun hc => ?_) (fun hc => ?_)
            · replace hF := it_t hF hc
              refine lv_iconst (v := (0 : Int32)) hx hb dX5_shipOf_78 (by decide) ?_
              have hq1 := Option.some.inj hF
              subst hq1
              exact e_i hx hb hr hlk hK hN hW hS dX5_shipOf_79
            · replace hF := it_f hF hc
              refine lv_iconst (v := (1 : Int32)) hx hb dX5_shipOf_74 (by decide) ?_
              refine lv_goto (tgt := 79) hx hb dX5_shipOf_75 (by decide) ?_
              have hq1 := Option.some.inj hF
              subst hq1
              exact e_i hx hb hr hlk hK hN hW hS dX5_shipOf_79
          · replace hF := it_f hF hn3
            by_cases hn4 : a2 = 4
            · replace hF := it_t hF hn4
              refine lv_tableIn (off := 67) (tgt := 80) hx hb dX5_shipOf_13 (by rw [hn4]; decide) (by rw [hn4]; decide) (by rw [hn4]; rfl) (by decide) ?_
              refine lv_aload_n hx hb dX5_shipOf_80 rfl (lv_at hl 0 rfl) ?_
              refine gn3_5 hx hb hts hi5_shipOf_3 hown hK hW ht3 (nf_5 hN) dX5_shipOf_81 ?_
              have hq1 := Option.some.inj hF
              subst hq1
              exact e_i hx hb hr hlk hK hN hW hS dX5_shipOf_84
            · replace hF := it_f hF hn4
              by_cases hn5 : a2 = 5
              · replace hF := it_t hF hn5
                refine lv_tableIn (off := 72) (tgt := 85) hx hb dX5_shipOf_13 (by rw [hn5]; decide) (by rw [hn5]; decide) (by rw [hn5]; rfl) (by decide) ?_
                refine lv_aload_n hx hb dX5_shipOf_85 rfl (lv_at hl 0 rfl) ?_
                refine gn3_6 hx hb hts hi5_shipOf_3 hown hK hW ht3 (nf_6 hN) dX5_shipOf_86 ?_
                have hq1 := Option.some.inj hF
                subst hq1
                exact e_i hx hb hr hlk hK hN hW hS dX5_shipOf_89
              · replace hF := it_f hF hn5
                have hq0 := sw_ne hn0 (n := 0) (by decide)
                have hq1 := sw_ne hn1 (n := 1) (by decide)
                have hq2 := sw_ne hn2 (n := 2) (by decide)
                have hq3 := sw_ne hn3 (n := 3) (by decide)
                have hq4 := sw_ne hn4 (n := 4) (by decide)
                have hq5 := sw_ne hn5 (n := 5) (by decide)
                refine lv_tableOut (tgt := 90) hx hb dX5_shipOf_13 (by omega) (by decide) ?_
                refine lv_iconst (v := (-1 : Int32)) hx hb dX5_shipOf_90 (by decide) ?_
                have hq1 := Option.some.inj hF
                subst hq1
                exact e_i hx hb hr hlk hK hN hW hS dX5_shipOf_91
  · subst hc
    replace hF := el_n hF
    replace hl : lv_has ls 4 [(3, .null), (0, .ref (ad 5 0)), (1, .int a1), (2, .int a2)] := hl
    refine lv_iconst (v := (-1 : Int32)) hx hb dX5_shipOf_10 (by decide) ?_
    have hq1 := Option.some.inj hF
    subst hq1
    exact e_i hx hb hr hlk hK hN hW hS dX5_shipOf_11

set_option maxHeartbeats 4000000 in
set_option maxRecDepth 100000 in
theorem c5_shipOf (l : Launch) {D : va_G} {cA : Nat → ClassId} {z : Nat} {ad : Nat → Nat → Nat} {N : TN} {S : TS} {P : TP} {M : TS} (a1 : Int32) (a2 : Int32) {v : Int32} (hF : f5_shipOf S P a1 a2 = some v) : Met l yX5_shipOf wsX5_shipOf rm5_shipOf (va_Pc [.ref (ad 5 0), .int a1, .int a2] (Wl D cA z (ad, N, S, P, M))) (Qi D cA z v (ad, N, S, P, M)) 0 0 (fun q => z ≤ q) := by
  refine Met.ofW (cc := cX5_shipOf) (maxL := 4) (ret := (some .int)) (by decide) rfl ?_
  intro p e s m args below meth c s₁ B hml hv
  obtain ⟨rfl, hW, hK, hN⟩ := hv
  have hl := lv_entry ([.ref (ad 5 0), .int a1, .int a2]) (n := 4) (Nat.le_of_ble_eq_true rfl)
  rw [lg_entry_eq]
  generalize (lg_sl ([.ref (ad 5 0), .int a1, .int a2]) ++ List.replicate (4 - (lg_sl ([.ref (ad 5 0), .int a1, .int a2])).length) Slot.unset).toArray = ls at hl ⊢
  exact w5_shipOf ⟨B.exec, B.bytes, B.returns, hml, findClass_of_methodNamed B.named, atoms_spec (ws := wsX5_shipOf) B.pre, B.notSynchronized⟩ hK hN a1 a2 hF hW va_S.rf hl

-- 5 ticketOf
abbrev rm5_ticketOf : Room := { frames := 2, cells := 0, slots := 0, locals := 43 }
def f5_ticketOf (S : TS) (P : TP) (a1 : Int32) (a2 : Int32) : Option (Int32) :=
  (f5_ticketNumbered S P a1).bind fun (r1 : Option Nat) =>
  r1.elim (some (-1 : Int32))
  (fun (t3 : Nat) => (f4_tell S P t3 a2).bind fun (v4 : Int32) =>
  some v4)
set_option maxHeartbeats 4000000 in
set_option maxRecDepth 100000 in
theorem w5_ticketOf {p : Program} {l : Launch} {e : Env} {s : State} {m : MethodId} {args : Array Value} {below : List Frame} {meth : Method} {c : Code} (C : MC p s m args meth c cX5_ticketOf (some .int) 4 RX5 wsX5_ticketOf) {D : va_G} {cA : Nat → ClassId} {z : Nat} {ad : Nat → Nat → Nat} {N : TN} (hK : va_K D vwCl (tysW cA) s) (hN : NW s) {S : TS} {P : TP} {M : TS} (a1 : Int32) (a2 : Int32) {v : Int32} (hF : f5_ticketOf S P a1 a2 = some v)
    {H : Heap} {ls : Array Slot} (hW : Wd D cA z ad N S P M H) {locs : List Loc} (hS : va_S (fun q => z ≤ q) s.heap H locs) (hl : lv_has ls 4 [(0, .ref (ad 5 0)), (1, .int a1), (2, .int a2)]) : W p l e rm5_ticketOf s m args below meth c H locs 0 0 (MQ below (Qi D cA z v (ad, N, S, P, M)) args s 0 0 (fun q => z ≤ q)) (F0 m 0 ls []) := by
  obtain ⟨hx, hb, hr, hml, hown, hts, hlk⟩ := id C
  unfold f5_ticketOf at hF
  refine lv_aload_n hx hb dX5_ticketOf_0 rfl (lv_at hl 0 rfl) ?_
  refine lv_iload_n hx hb dX5_ticketOf_1 rfl (lv_at hl 1 rfl) ?_
  replace hF := ob hF
  obtain ⟨r1, q2, hF⟩ := hF
  refine k_q (va_runV (As := [.int a1]) (rest := []) ⟨hx, hb, hml, hown, hts⟩ (c5_ticketNumbered l a1 q2) (cwV 1 hts gX5_ticketOf_X5_ticketNumbered rfl rfl rfl (by decide +kernel) ⟨Nat.le_of_ble_eq_true rfl, Nat.le_of_ble_eq_true rfl⟩) (k_preV hW hK hN (hW.fx 5 rfl) (EE_5 cA ad S P M 0) rfl) rfl rfl hl.1 rfl (lv_room (Nat.le_of_ble_eq_true rfl)) dX5_ticketOf_2 ⟨Nat.le_of_ble_eq_true rfl, Nat.le_of_ble_eq_true rfl⟩) hS (fun H locs hW hS hr1 => ?_)
  refine q_astore_n (lv' := [(3, va_rf (r1.map (ad 4))), (0, .ref (ad 5 0)), (1, .int a1), (2, .int a2)]) hx hb dX5_ticketOf_5 rfl hl (by decide) rfl ?_
  clear hl; intro ls hl
  refine q_aload_n hx hb dX5_ticketOf_6 rfl (lv_at hl 0 rfl) ?_
  refine q_ifnonnull (tgt := 14) hx hb dX5_ticketOf_7 (by decide) (fun t3 hc => ?_) (fun hc => ?_)
  · subst hc
    replace hF := el_s hF
    have ht3 := hr1 t3 rfl
    replace hl : lv_has ls 4 [(3, .ref (ad 4 t3)), (0, .ref (ad 5 0)), (1, .int a1), (2, .int a2)] := hl
    refine lv_aload_n hx hb dX5_ticketOf_14 rfl (lv_at hl 0 rfl) ?_
    refine lv_iload_n hx hb dX5_ticketOf_15 rfl (lv_at hl 3 rfl) ?_
    replace hF := ob hF
    obtain ⟨v4, q5, hF⟩ := hF
    refine k_i (va_runVN (C := RX4) (As := [.int a2]) (rest := []) ⟨hx, hb, hml, hown, hts⟩ (c4_tell l t3 a2 ht3 q5) ⟨va_cnB 1 hts gX5_ticketOf_X4_tell_n271 rfl rfl rfl (nm_9 hN) (hts (.initialized RX4) (by decide +kernel)) (by decide +kernel) ⟨Nat.le_of_ble_eq_true rfl, Nat.le_of_ble_eq_true rfl⟩, hts (.instanceMethod yX4_tell) (by decide +kernel), hts (.selects RX4 yX4_tell yX4_tell) (by decide +kernel)⟩ (k_preV hW hK hN ht3 (EE_4 cA ad S P M t3) rfl) rfl rfl hl.1 rfl (lv_room (Nat.le_of_ble_eq_true rfl)) dX5_ticketOf_16 ⟨Nat.le_of_ble_eq_true rfl, Nat.le_of_ble_eq_true rfl⟩) hS ?_
    clear hW hS; intro H locs hW hS
    have hq1 := Option.some.inj hF
    subst hq1
    exact e_i hx hb hr hlk hK hN hW hS dX5_ticketOf_19
  · subst hc
    replace hF := el_n hF
    replace hl : lv_has ls 4 [(3, .null), (0, .ref (ad 5 0)), (1, .int a1), (2, .int a2)] := hl
    refine lv_iconst (v := (-1 : Int32)) hx hb dX5_ticketOf_10 (by decide) ?_
    refine lv_goto (tgt := 19) hx hb dX5_ticketOf_11 (by decide) ?_
    have hq1 := Option.some.inj hF
    subst hq1
    exact e_i hx hb hr hlk hK hN hW hS dX5_ticketOf_19

set_option maxHeartbeats 4000000 in
set_option maxRecDepth 100000 in
theorem c5_ticketOf (l : Launch) {D : va_G} {cA : Nat → ClassId} {z : Nat} {ad : Nat → Nat → Nat} {N : TN} {S : TS} {P : TP} {M : TS} (a1 : Int32) (a2 : Int32) {v : Int32} (hF : f5_ticketOf S P a1 a2 = some v) : Met l yX5_ticketOf wsX5_ticketOf rm5_ticketOf (va_Pc [.ref (ad 5 0), .int a1, .int a2] (Wl D cA z (ad, N, S, P, M))) (Qi D cA z v (ad, N, S, P, M)) 0 0 (fun q => z ≤ q) := by
  refine Met.ofW (cc := cX5_ticketOf) (maxL := 4) (ret := (some .int)) (by decide) rfl ?_
  intro p e s m args below meth c s₁ B hml hv
  obtain ⟨rfl, hW, hK, hN⟩ := hv
  have hl := lv_entry ([.ref (ad 5 0), .int a1, .int a2]) (n := 4) (Nat.le_of_ble_eq_true rfl)
  rw [lg_entry_eq]
  generalize (lg_sl ([.ref (ad 5 0), .int a1, .int a2]) ++ List.replicate (4 - (lg_sl ([.ref (ad 5 0), .int a1, .int a2])).length) Slot.unset).toArray = ls at hl ⊢
  exact w5_ticketOf ⟨B.exec, B.bytes, B.returns, hml, findClass_of_methodNamed B.named, atoms_spec (ws := wsX5_ticketOf) B.pre, B.notSynchronized⟩ hK hN a1 a2 hF hW va_S.rf hl

