-- 5 cabin
abbrev rm5_cabin : Room := { frames := 2, cells := 1, slots := 3, locals := 43 }
def f5_cabin (S : TS) (P : TP) (N : TN) (a1 : Int32) (a2 : Int32) : Option (Int32 × TS × TP × TN) :=
  (f5_shipNumbered S P a1).bind fun (r1 : Option Nat) =>
  r1.elim (some ((-1 : Int32), S, P, N))
  (fun (t3 : Nat) => if (120 : Int32) ≤ (S 503 0) then
  (some ((-1 : Int32), S, P, N))
  else
  ((f5_within a2 (1 : Int32) (6 : Int32)).bind fun (v4 : Int32) =>
  if v4 = 0 then
  (some ((-1 : Int32), S, P, N))
  else
  (lt (upN N 1) fun (N6 : TN) =>
  lt (clr S 1 (N 1)) fun (S7 : TS) =>
  lt (clrP P 1 (N 1)) fun (P8 : TP) =>
  b2 (f1_init S7 P8 (N 1) t3 a2) fun (S11 : TS) (P12 : TP) =>
  (ix (S 503 0) 120).bind fun (j14 : Nat) =>
  lt (up3 P12 800 0 j14 (some (N 1))) fun (P15 : TP) =>
  lt (up S11 305 t3 ((S11 305 t3) + (1 : Int32))) fun (S16 : TS) =>
  lt (up S16 503 0 ((S16 503 0) + (1 : Int32))) fun (S17 : TS) =>
  some ((S16 503 0), S17, P15, N6))))
set_option maxRecDepth 20000 in
theorem hi5_cabin_1 : ∀ w ∈ u_ws RX1 TX1 3, w ∈ wsX5_cabin := by decide +kernel
set_option maxRecDepth 20000 in
theorem hi5_cabin_3 : ∀ w ∈ u_ws RX3 TX3 8, w ∈ wsX5_cabin := by decide +kernel
set_option maxRecDepth 20000 in
theorem hi5_cabin_5 : ∀ w ∈ u_ws RX5 TX5 12, w ∈ wsX5_cabin := by decide +kernel
set_option maxHeartbeats 4000000 in
set_option maxRecDepth 100000 in
theorem w5_cabin {p : Program} {l : Launch} {e : Env} {s : State} {m : MethodId} {args : Array Value} {below : List Frame} {meth : Method} {c : Code} (C : MC p s m args meth c cX5_cabin (some .int) 4 RX5 wsX5_cabin) {D : va_G} {cA : Nat → ClassId} {z : Nat} {ad : Nat → Nat → Nat} {N : TN} (hK : va_K D vwCl (tysW cA) s) (hN : NW s) {S : TS} {P : TP} {M : TS} (a1 : Int32) (a2 : Int32) {v : Int32} {S' : TS} {P' : TP} {N' : TN} (hF : f5_cabin S P N a1 a2 = some (v, S', P', N'))
    {H : Heap} {ls : Array Slot} (hW : Wd D cA z ad N S P M H) {locs : List Loc} (hS : va_S (fun q => z ≤ q) s.heap H locs) (hl : lv_has ls 4 [(0, .ref (ad 5 0)), (1, .int a1), (2, .int a2)]) : W p l e rm5_cabin s m args below meth c H locs 0 0 (MQ below (Qia D cA z ad N v N' S' P' M) args s 1 3 (fun q => z ≤ q)) (F0 m 0 ls []) := by
  obtain ⟨hx, hb, hr, hml, hown, hts, hlk⟩ := id C
  unfold f5_cabin at hF
  refine lv_aload_n hx hb dX5_cabin_0 rfl (lv_at hl 0 rfl) ?_
  refine lv_iload_n hx hb dX5_cabin_1 rfl (lv_at hl 1 rfl) ?_
  replace hF := ob hF
  obtain ⟨r1, q2, hF⟩ := hF
  refine k_q (va_runV (As := [.int a1]) (rest := []) ⟨hx, hb, hml, hown, hts⟩ (c5_shipNumbered l a1 q2) (cwV 1 hts gX5_cabin_X5_shipNumbered rfl rfl rfl (by decide +kernel) ⟨Nat.le_of_ble_eq_true rfl, Nat.le_of_ble_eq_true rfl⟩) (k_preV hW hK hN (hW.fx 5 rfl) (EE_5 cA ad S P M 0) rfl) rfl rfl hl.1 rfl (lv_room (Nat.le_of_ble_eq_true rfl)) dX5_cabin_2 ⟨Nat.le_of_ble_eq_true rfl, Nat.le_of_ble_eq_true rfl⟩) hS (fun H locs hW hS hr1 => ?_)
  refine q_astore_n (lv' := [(3, va_rf (r1.map (ad 3))), (0, .ref (ad 5 0)), (1, .int a1), (2, .int a2)]) hx hb dX5_cabin_5 rfl hl (by decide) rfl ?_
  clear hl; intro ls hl
  refine q_aload_n hx hb dX5_cabin_6 rfl (lv_at hl 0 rfl) ?_
  refine q_ifnull (tgt := 32) hx hb dX5_cabin_7 (by decide) (fun hc => ?_) (fun t3 hc => ?_)
  · subst hc
    replace hF := el_n hF
    replace hl : lv_has ls 4 [(3, .null), (0, .ref (ad 5 0)), (1, .int a1), (2, .int a2)] := hl
    refine lv_iconst (v := (-1 : Int32)) hx hb dX5_cabin_32 (by decide) ?_
    obtain ⟨hq1, hq2⟩ := Prod.mk.inj (Option.some.inj hF)
    obtain ⟨hq2, hq3⟩ := Prod.mk.inj hq2
    obtain ⟨hq3, hq4⟩ := Prod.mk.inj hq3
    subst hq1
    subst hq2
    subst hq3
    subst hq4
    refine W.widen (k := 1) (n := 3) (by decide) (by decide) ?_
    exact e_ia hx hb hr hlk hK hN hW hS  (fun _ _ _ => rfl) (fun _ => Nat.le_refl _) dX5_cabin_33
  · subst hc
    replace hF := el_s hF
    have ht3 := hr1 t3 rfl
    replace hl : lv_has ls 4 [(3, .ref (ad 3 t3)), (0, .ref (ad 5 0)), (1, .int a1), (2, .int a2)] := hl
    refine lv_aload_n hx hb dX5_cabin_10 rfl (lv_at hl 1 rfl) ?_
    refine g5_3 hx hb hts hi5_cabin_5 hown hK hW (hts (.fieldLink RX5 58 RX5 "cabinCount" "I") (by decide +kernel)) dX5_cabin_11 ?_
    refine lv_aload_n hx hb dX5_cabin_14 rfl (lv_at hl 1 rfl) ?_
    refine g5_2 hx hb hts hi5_cabin_5 hown hK hW (hts (.fieldLink RX5 17 RX5 "cabins" "[LFerryTerminal$Cabin;") (by decide +kernel)) dX5_cabin_15 ?_
    refine n8 hx hb hK hW dX5_cabin_18 ?_
    refine lv_icmp_ge (tgt := 32) hx hb dX5_cabin_19 (by decide) (fun hc => ?_) (fun hc => ?_)
    · replace hF := it_t hF hc
      refine lv_iconst (v := (-1 : Int32)) hx hb dX5_cabin_32 (by decide) ?_
      obtain ⟨hq1, hq2⟩ := Prod.mk.inj (Option.some.inj hF)
      obtain ⟨hq2, hq3⟩ := Prod.mk.inj hq2
      obtain ⟨hq3, hq4⟩ := Prod.mk.inj hq3
      subst hq1
      subst hq2
      subst hq3
      subst hq4
      refine W.widen (k := 1) (n := 3) (by decide) (by decide) ?_
      exact e_ia hx hb hr hlk hK hN hW hS  (fun _ _ _ => rfl) (fun _ => Nat.le_refl _) dX5_cabin_33
    · replace hF := it_f hF hc
      refine lv_iload_n hx hb dX5_cabin_22 rfl (lv_at hl 3 rfl) ?_
      refine lv_iconst (v := (1 : Int32)) hx hb dX5_cabin_23 (by decide) ?_
      refine lv_bipush (v := (6 : Int32)) hx hb dX5_cabin_24 (by decide) ?_
      replace hF := ob hF
      obtain ⟨v4, q5, hF⟩ := hF
      refine k_i (va_runS (As := [.int a2, .int (1 : Int32), .int (6 : Int32)]) (rest := []) ⟨hx, hb, hml, hown, hts⟩ (c5_within l a2 (1 : Int32) (6 : Int32) q5) (va_cwS 3 hts gX5_cabin_X5_within rfl rfl rfl (by decide +kernel) ⟨Nat.le_of_ble_eq_true rfl, Nat.le_of_ble_eq_true rfl⟩) (k_preS hW hK hN) rfl rfl hl.1 rfl (lv_room (Nat.le_of_ble_eq_true rfl)) dX5_cabin_26 ⟨Nat.le_of_ble_eq_true rfl, Nat.le_of_ble_eq_true rfl⟩) hS ?_
      clear hW hS; intro H locs hW hS
      refine lv_if_ne (tgt := 34) hx hb dX5_cabin_29 (by decide) (fun hc => ?_) (fun hc => ?_)
      · replace hF := it_f hF hc
        refine lv_aload_n hx hb dX5_cabin_34 rfl (lv_at hl 1 rfl) ?_
        refine g5_2 hx hb hts hi5_cabin_5 hown hK hW (hts (.fieldLink RX5 17 RX5 "cabins" "[LFerryTerminal$Cabin;") (by decide +kernel)) dX5_cabin_35 ?_
        refine lv_aload_n hx hb dX5_cabin_38 rfl (lv_at hl 1 rfl) ?_
        refine g5_3 hx hb hts hi5_cabin_5 hown hK hW (hts (.fieldLink RX5 58 RX5 "cabinCount" "I") (by decide +kernel)) dX5_cabin_39 ?_
        replace hF := lt_ex hF
        obtain ⟨N6, eN6, hF⟩ := hF
        replace hF := lt_ex hF
        obtain ⟨S7, eS7, hF⟩ := hF
        replace hF := lt_ex hF
        obtain ⟨P8, eP8, hF⟩ := hF
        have h0fx := hW
        refine r_new (k := 1) (fs := [.null, .int 0, .int 0]) (C := RX1) (T := TX1) (Nf := 3) hx hb hts hi5_cabin_1 tyX1 tyX1_ok hown (hts (.classLink RX5 15 RX1) (by decide +kernel)) (hts (.instantiable RX1 3) (by decide +kernel)) (hts (.initialized RX1) (by decide +kernel)) hK hW hS rfl (by decide) (fun j hj => by rcases (show j = 0 ∨ j = 1 ∨ j = 2 by omega) with rfl | rfl | rfl <;> rfl) (fun ad' => by rw [EE_1]; simp [clr, clrP, va_rf]) eN6 eS7 eP8 (Nat.le_of_ble_eq_true rfl) (Nat.le_of_ble_eq_true rfl) dX5_cabin_42 (fun H ad9 hgad9 hmad9 hW hS => ?_)
        have eaad9_0 : ad 8 0 = ad9 8 0 := (hgad9 _ _ (h0fx.fx 8 rfl)).symm
        have eaad9_1 : ad 3 t3 = ad9 3 t3 := (hgad9 _ _ ht3).symm
        have haad9_1 : t3 < N6 3 := Nat.lt_of_lt_of_le ht3 (hmad9 3)
        have eaad9_2 : ad 5 0 = ad9 5 0 := (hgad9 _ _ (h0fx.fx 5 rfl)).symm
        try rw [eaad9_0] at hl
        try rw [eaad9_1] at hl
        try rw [eaad9_2] at hl
        have hg_ad9 : ∀ k i, i < N k → ad9 k i = ad k i := fun k i h => (hgad9 k i (Nat.lt_of_lt_of_le h ((fun _ => Nat.le_refl _) k))).trans ((fun _ _ _ => rfl) k i h)
        have hmm_ad9 : ∀ k, N k ≤ N6 k := fun k => Nat.le_trans ((fun _ => Nat.le_refl _) k) (hmad9 k)
        have hn10 : N 1 < N6 1 := by rw [eN6]; exact upN_lt
        refine W.eq (g2 := F0 m 45 ls [.ref (ad9 1 (N 1)), .int (S 503 0), .ref (ad9 8 0)]) (by first | rfl | (rw [eaad9_0]; try rfl)) ?_
        refine lv_dup hx hb dX5_cabin_45 rfl ?_
        refine lv_aload_n hx hb dX5_cabin_46 rfl (lv_at hl 0 rfl) ?_
        refine lv_iload_n hx hb dX5_cabin_47 rfl (lv_at hl 3 rfl) ?_
        replace hF := ob2 hF
        obtain ⟨S11, P12, q13, hF⟩ := hF
        refine k_v (va_runIN (b := ad9 1 (N 1)) (As := [.ref (ad9 3 t3), .int a2]) (rest := [.ref (ad9 1 (N 1)), .int (S 503 0), .ref (ad9 8 0)]) ⟨hx, hb, hml, hown, hts⟩ (c1_init l (N 1) t3 a2 hn10 haad9_1 q13) ⟨va_cnB 2 hts gX5_cabin_X1_init_n61 rfl rfl rfl (nm_1 hN) (hts (.initialized RX1) (by decide +kernel)) (by decide +kernel) ⟨Nat.le_of_ble_eq_true rfl, Nat.le_of_ble_eq_true rfl⟩, rfl, hts (.instanceMethod yX1_init) (by decide +kernel)⟩ (k_preS hW hK hN) rfl rfl hl.1 rfl (lv_room (Nat.le_of_ble_eq_true rfl)) dX5_cabin_48 ⟨Nat.le_of_ble_eq_true rfl, Nat.le_of_ble_eq_true rfl⟩) hS ?_
        clear hW hS; intro H locs hW hS
        replace hF := ob hF
        obtain ⟨j14, ej14, hF⟩ := hF
        replace hF := lt_ex hF
        obtain ⟨P15, eP15, hF⟩ := hF
        refine t8 (r := (some (N 1))) hx hb hK hW hS ej14 (q_some hn10) eP15 dX5_cabin_51 ?_
        clear hW hS; intro H locs hW hS
        refine lv_aload_n hx hb dX5_cabin_52 rfl (lv_at hl 0 rfl) ?_
        refine lv_dup hx hb dX5_cabin_53 rfl ?_
        refine gn3_5 hx hb hts hi5_cabin_3 hown hK hW haad9_1 (nf_5 hN) dX5_cabin_54 ?_
        refine lv_iconst (v := (1 : Int32)) hx hb dX5_cabin_57 (by decide) ?_
        refine lv_iadd hx hb dX5_cabin_58 ?_
        replace hF := lt_ex hF
        obtain ⟨S16, eS16, hF⟩ := hF
        refine pn3_5 hx hb hts hi5_cabin_3 hown hK hW hS haad9_1 eS16 (nf_5 hN) dX5_cabin_59 ?_
        clear hW hS; intro H locs hW hS
        refine lv_aload_n hx hb dX5_cabin_62 rfl (lv_at hl 1 rfl) ?_
        refine lv_dup hx hb dX5_cabin_63 rfl ?_
        refine g5_3 hx hb hts hi5_cabin_5 hown hK hW (hts (.fieldLink RX5 58 RX5 "cabinCount" "I") (by decide +kernel)) dX5_cabin_64 ?_
        refine lv_dup_x1 hx hb dX5_cabin_67 rfl rfl ?_
        refine lv_iconst (v := (1 : Int32)) hx hb dX5_cabin_68 (by decide) ?_
        refine lv_iadd hx hb dX5_cabin_69 ?_
        replace hF := lt_ex hF
        obtain ⟨S17, eS17, hF⟩ := hF
        refine p5_3 hx hb hts hi5_cabin_5 hown hK hW hS eS17 (hts (.fieldLink RX5 58 RX5 "cabinCount" "I") (by decide +kernel)) dX5_cabin_70 ?_
        clear hW hS; intro H locs hW hS
        obtain ⟨hq1, hq2⟩ := Prod.mk.inj (Option.some.inj hF)
        obtain ⟨hq2, hq3⟩ := Prod.mk.inj hq2
        obtain ⟨hq3, hq4⟩ := Prod.mk.inj hq3
        subst hq1
        subst hq2
        subst hq3
        subst hq4
        exact e_ia hx hb hr hlk hK hN hW hS  hg_ad9 hmm_ad9 dX5_cabin_73
      · replace hF := it_t hF hc
        refine lv_iconst (v := (-1 : Int32)) hx hb dX5_cabin_32 (by decide) ?_
        obtain ⟨hq1, hq2⟩ := Prod.mk.inj (Option.some.inj hF)
        obtain ⟨hq2, hq3⟩ := Prod.mk.inj hq2
        obtain ⟨hq3, hq4⟩ := Prod.mk.inj hq3
        subst hq1
        subst hq2
        subst hq3
        subst hq4
        refine W.widen (k := 1) (n := 3) (by decide) (by decide) ?_
        exact e_ia hx hb hr hlk hK hN hW hS  (fun _ _ _ => rfl) (fun _ => Nat.le_refl _) dX5_cabin_33

set_option maxHeartbeats 4000000 in
set_option maxRecDepth 100000 in
theorem c5_cabin (l : Launch) {D : va_G} {cA : Nat → ClassId} {z : Nat} {ad : Nat → Nat → Nat} {N : TN} {S : TS} {P : TP} {M : TS} (a1 : Int32) (a2 : Int32) {v : Int32} {S' : TS} {P' : TP} {N' : TN} (hF : f5_cabin S P N a1 a2 = some (v, S', P', N')) : Met l yX5_cabin wsX5_cabin rm5_cabin (va_Pc [.ref (ad 5 0), .int a1, .int a2] (Wl D cA z (ad, N, S, P, M))) (Qia D cA z ad N v N' S' P' M) 1 3 (fun q => z ≤ q) := by
  refine Met.ofW (cc := cX5_cabin) (maxL := 4) (ret := (some .int)) (by decide) rfl ?_
  intro p e s m args below meth c s₁ B hml hv
  obtain ⟨rfl, hW, hK, hN⟩ := hv
  have hl := lv_entry ([.ref (ad 5 0), .int a1, .int a2]) (n := 4) (Nat.le_of_ble_eq_true rfl)
  rw [lg_entry_eq]
  generalize (lg_sl ([.ref (ad 5 0), .int a1, .int a2]) ++ List.replicate (4 - (lg_sl ([.ref (ad 5 0), .int a1, .int a2])).length) Slot.unset).toArray = ls at hl ⊢
  exact w5_cabin ⟨B.exec, B.bytes, B.returns, hml, findClass_of_methodNamed B.named, atoms_spec (ws := wsX5_cabin) B.pre, B.notSynchronized⟩ hK hN a1 a2 hF hW va_S.rf hl

-- 5 count
abbrev rm5_count : Room := { frames := 0, cells := 0, slots := 0, locals := 0 }
def f5_count (S : TS) (P : TP) (a1 : Int32) : Option (Int32) :=
  if a1 = 0 then
  (some (S 501 0))
  else
  (if a1 = 1 then
  (some (S 503 0))
  else
  (if a1 = 2 then
  (some (S 505 0))
  else
  (if a1 = 3 then
  (some (S 507 0))
  else
  (if a1 = 4 then
  (some (S 511 0))
  else
  (some (-1 : Int32))))))
set_option maxRecDepth 20000 in
theorem hi5_count_5 : ∀ w ∈ u_ws RX5 TX5 12, w ∈ wsX5_count := by decide +kernel
set_option maxHeartbeats 4000000 in
set_option maxRecDepth 100000 in
theorem w5_count {p : Program} {l : Launch} {e : Env} {s : State} {m : MethodId} {args : Array Value} {below : List Frame} {meth : Method} {c : Code} (C : MC p s m args meth c cX5_count (some .int) 2 RX5 wsX5_count) {D : va_G} {cA : Nat → ClassId} {z : Nat} {ad : Nat → Nat → Nat} {N : TN} (hK : va_K D vwCl (tysW cA) s) (hN : NW s) {S : TS} {P : TP} {M : TS} (a1 : Int32) {v : Int32} (hF : f5_count S P a1 = some v)
    {H : Heap} {ls : Array Slot} (hW : Wd D cA z ad N S P M H) {locs : List Loc} (hS : va_S (fun q => z ≤ q) s.heap H locs) (hl : lv_has ls 2 [(0, .ref (ad 5 0)), (1, .int a1)]) : W p l e rm5_count s m args below meth c H locs 0 0 (MQ below (Qi D cA z v (ad, N, S, P, M)) args s 0 0 (fun q => z ≤ q)) (F0 m 0 ls []) := by
  obtain ⟨hx, hb, hr, hml, hown, hts, hlk⟩ := id C
  unfold f5_count at hF
  refine lv_iload_n hx hb dX5_count_0 rfl (lv_at hl 1 rfl) ?_
  by_cases hn0 : a1 = 0
  · replace hF := it_t hF hn0
    refine lv_tableIn (off := 35) (tgt := 36) hx hb dX5_count_1 (by rw [hn0]; decide) (by rw [hn0]; decide) (by rw [hn0]; rfl) (by decide) ?_
    refine lv_aload_n hx hb dX5_count_36 rfl (lv_at hl 0 rfl) ?_
    refine g5_1 hx hb hts hi5_count_5 hown hK hW (hts (.fieldLink RX5 43 RX5 "shipCount" "I") (by decide +kernel)) dX5_count_37 ?_
    have hq1 := Option.some.inj hF
    subst hq1
    exact e_i hx hb hr hlk hK hN hW hS dX5_count_40
  · replace hF := it_f hF hn0
    by_cases hn1 : a1 = 1
    · replace hF := it_t hF hn1
      refine lv_tableIn (off := 40) (tgt := 41) hx hb dX5_count_1 (by rw [hn1]; decide) (by rw [hn1]; decide) (by rw [hn1]; rfl) (by decide) ?_
      refine lv_aload_n hx hb dX5_count_41 rfl (lv_at hl 0 rfl) ?_
      refine g5_3 hx hb hts hi5_count_5 hown hK hW (hts (.fieldLink RX5 58 RX5 "cabinCount" "I") (by decide +kernel)) dX5_count_42 ?_
      have hq1 := Option.some.inj hF
      subst hq1
      exact e_i hx hb hr hlk hK hN hW hS dX5_count_45
    · replace hF := it_f hF hn1
      by_cases hn2 : a1 = 2
      · replace hF := it_t hF hn2
        refine lv_tableIn (off := 45) (tgt := 46) hx hb dX5_count_1 (by rw [hn2]; decide) (by rw [hn2]; decide) (by rw [hn2]; rfl) (by decide) ?_
        refine lv_aload_n hx hb dX5_count_46 rfl (lv_at hl 0 rfl) ?_
        refine g5_5 hx hb hts hi5_count_5 hown hK hW (hts (.fieldLink RX5 65 RX5 "sailingCount" "I") (by decide +kernel)) dX5_count_47 ?_
        have hq1 := Option.some.inj hF
        subst hq1
        exact e_i hx hb hr hlk hK hN hW hS dX5_count_50
      · replace hF := it_f hF hn2
        by_cases hn3 : a1 = 3
        · replace hF := it_t hF hn3
          refine lv_tableIn (off := 50) (tgt := 51) hx hb dX5_count_1 (by rw [hn3]; decide) (by rw [hn3]; decide) (by rw [hn3]; rfl) (by decide) ?_
          refine lv_aload_n hx hb dX5_count_51 rfl (lv_at hl 0 rfl) ?_
          refine g5_7 hx hb hts hi5_count_5 hown hK hW (hts (.fieldLink RX5 100 RX5 "ticketCount" "I") (by decide +kernel)) dX5_count_52 ?_
          have hq1 := Option.some.inj hF
          subst hq1
          exact e_i hx hb hr hlk hK hN hW hS dX5_count_55
        · replace hF := it_f hF hn3
          by_cases hn4 : a1 = 4
          · replace hF := it_t hF hn4
            refine lv_tableIn (off := 55) (tgt := 56) hx hb dX5_count_1 (by rw [hn4]; decide) (by rw [hn4]; decide) (by rw [hn4]; rfl) (by decide) ?_
            refine lv_aload_n hx hb dX5_count_56 rfl (lv_at hl 0 rfl) ?_
            refine g5_11 hx hb hts hi5_count_5 hown hK hW (hts (.fieldLink RX5 159 RX5 "turnsEver" "I") (by decide +kernel)) dX5_count_57 ?_
            have hq1 := Option.some.inj hF
            subst hq1
            exact e_i hx hb hr hlk hK hN hW hS dX5_count_60
          · replace hF := it_f hF hn4
            have hq0 := sw_ne hn0 (n := 0) (by decide)
            have hq1 := sw_ne hn1 (n := 1) (by decide)
            have hq2 := sw_ne hn2 (n := 2) (by decide)
            have hq3 := sw_ne hn3 (n := 3) (by decide)
            have hq4 := sw_ne hn4 (n := 4) (by decide)
            refine lv_tableOut (tgt := 61) hx hb dX5_count_1 (by omega) (by decide) ?_
            refine lv_iconst (v := (-1 : Int32)) hx hb dX5_count_61 (by decide) ?_
            have hq1 := Option.some.inj hF
            subst hq1
            exact e_i hx hb hr hlk hK hN hW hS dX5_count_62

set_option maxHeartbeats 4000000 in
set_option maxRecDepth 100000 in
theorem c5_count (l : Launch) {D : va_G} {cA : Nat → ClassId} {z : Nat} {ad : Nat → Nat → Nat} {N : TN} {S : TS} {P : TP} {M : TS} (a1 : Int32) {v : Int32} (hF : f5_count S P a1 = some v) : Met l yX5_count wsX5_count rm5_count (va_Pc [.ref (ad 5 0), .int a1] (Wl D cA z (ad, N, S, P, M))) (Qi D cA z v (ad, N, S, P, M)) 0 0 (fun q => z ≤ q) := by
  refine Met.ofW (cc := cX5_count) (maxL := 2) (ret := (some .int)) (by decide) rfl ?_
  intro p e s m args below meth c s₁ B hml hv
  obtain ⟨rfl, hW, hK, hN⟩ := hv
  have hl := lv_entry ([.ref (ad 5 0), .int a1]) (n := 2) (Nat.le_of_ble_eq_true rfl)
  rw [lg_entry_eq]
  generalize (lg_sl ([.ref (ad 5 0), .int a1]) ++ List.replicate (2 - (lg_sl ([.ref (ad 5 0), .int a1])).length) Slot.unset).toArray = ls at hl ⊢
  exact w5_count ⟨B.exec, B.bytes, B.returns, hml, findClass_of_methodNamed B.named, atoms_spec (ws := wsX5_count) B.pre, B.notSynchronized⟩ hK hN a1 hF hW va_S.rf hl

-- 5 endTicket
abbrev rm5_endTicket : Room := { frames := 4, cells := 0, slots := 0, locals := 88 }
def f5_endTicket (S : TS) (P : TP) (a1 : Nat) : Option (TS × TP) :=
  if (S 406 a1) = (3 : Int32) then
  (lt (P 401 a1 0) fun (r5 : Option Nat) =>
  r5.bind fun (t6 : Nat) =>
  lt (P 201 t6 0) fun (r7 : Option Nat) =>
  r7.bind fun (t8 : Nat) =>
  b2 (f3_clearPlace S P t8 a1) fun (S9 : TS) (P10 : TP) =>
  b2 (f5_freeCabin S9 P10 a1) fun (S12 : TS) (P13 : TP) =>
  lt (up S12 406 a1 (6 : Int32)) fun (S15 : TS) =>
  some (S15, P13))
  else
  (if (S 406 a1) = (4 : Int32) then
  (lt (up S 406 a1 (5 : Int32)) fun (S3 : TS) =>
  lt (up S3 412 a1 (S3 405 a1)) fun (S4 : TS) =>
  some (S4, P))
  else
  (if (S 406 a1) = 0 then
  (lt (up S 406 a1 (7 : Int32)) fun (S1 : TS) =>
  lt (up S1 412 a1 ((S1 405 a1) / (2 : Int32))) fun (S2 : TS) =>
  some (S2, P))
  else
  (some (S, P))))
set_option maxRecDepth 20000 in
theorem hi5_endTicket_2 : ∀ w ∈ u_ws RX2 TX2 9, w ∈ wsX5_endTicket := by decide +kernel
set_option maxRecDepth 20000 in
theorem hi5_endTicket_4 : ∀ w ∈ u_ws RX4 TX4 16, w ∈ wsX5_endTicket := by decide +kernel
set_option maxHeartbeats 4000000 in
set_option maxRecDepth 100000 in
theorem w5_endTicket {p : Program} {l : Launch} {e : Env} {s : State} {m : MethodId} {args : Array Value} {below : List Frame} {meth : Method} {c : Code} (C : MC p s m args meth c cX5_endTicket none 2 RX5 wsX5_endTicket) {D : va_G} {cA : Nat → ClassId} {z : Nat} {ad : Nat → Nat → Nat} {N : TN} (hK : va_K D vwCl (tysW cA) s) (hN : NW s) {S : TS} {P : TP} {M : TS} (a1 : Nat) (ha1 : a1 < N 4) {S' : TS} {P' : TP} (hF : f5_endTicket S P a1 = some (S', P'))
    {H : Heap} {ls : Array Slot} (hW : Wd D cA z ad N S P M H) {locs : List Loc} (hS : va_S (fun q => z ≤ q) s.heap H locs) (hl : lv_has ls 2 [(0, .ref (ad 5 0)), (1, .ref (ad 4 a1))]) : W p l e rm5_endTicket s m args below meth c H locs 0 0 (MQ below (Qv D cA z (ad, N, S', P', M)) args s 0 0 (fun q => z ≤ q)) (F0 m 0 ls []) := by
  obtain ⟨hx, hb, hr, hml, hown, hts, hlk⟩ := id C
  unfold f5_endTicket at hF
  refine lv_aload_n hx hb dX5_endTicket_0 rfl (lv_at hl 1 rfl) ?_
  refine gn4_6 hx hb hts hi5_endTicket_4 hown hK hW ha1 (nf_28 hN) dX5_endTicket_1 ?_
  refine lv_iconst (v := (3 : Int32)) hx hb dX5_endTicket_4 (by decide) ?_
  refine lv_icmp_ne (tgt := 33) hx hb dX5_endTicket_5 (by decide) (fun hc => ?_) (fun hc => ?_)
  · replace hF := it_f hF hc
    refine lv_aload_n hx hb dX5_endTicket_33 rfl (lv_at hl 1 rfl) ?_
    refine gn4_6 hx hb hts hi5_endTicket_4 hown hK hW ha1 (nf_28 hN) dX5_endTicket_34 ?_
    refine lv_iconst (v := (4 : Int32)) hx hb dX5_endTicket_37 (by decide) ?_
    refine lv_icmp_ne (tgt := 57) hx hb dX5_endTicket_38 (by decide) (fun hc => ?_) (fun hc => ?_)
    · replace hF := it_f hF hc
      refine lv_aload_n hx hb dX5_endTicket_57 rfl (lv_at hl 1 rfl) ?_
      refine gn4_6 hx hb hts hi5_endTicket_4 hown hK hW ha1 (nf_28 hN) dX5_endTicket_58 ?_
      refine lv_if_ne (tgt := 80) hx hb dX5_endTicket_61 (by decide) (fun hc => ?_) (fun hc => ?_)
      · replace hF := it_f hF hc
        obtain ⟨hq1, hq2⟩ := Prod.mk.inj (Option.some.inj hF)
        subst hq1
        subst hq2
        exact e_v hx hb hr hlk hK hN hW hS dX5_endTicket_80
      · replace hF := it_t hF hc
        refine lv_aload_n hx hb dX5_endTicket_64 rfl (lv_at hl 1 rfl) ?_
        refine lv_bipush (v := (7 : Int32)) hx hb dX5_endTicket_65 (by decide) ?_
        replace hF := lt_ex hF
        obtain ⟨S1, eS1, hF⟩ := hF
        refine pn4_6 hx hb hts hi5_endTicket_4 hown hK hW hS ha1 eS1 (nf_28 hN) dX5_endTicket_67 ?_
        clear hW hS; intro H locs hW hS
        refine lv_aload_n hx hb dX5_endTicket_70 rfl (lv_at hl 1 rfl) ?_
        refine lv_aload_n hx hb dX5_endTicket_71 rfl (lv_at hl 1 rfl) ?_
        refine gn4_5 hx hb hts hi5_endTicket_4 hown hK hW ha1 (nf_27 hN) dX5_endTicket_72 ?_
        refine lv_iconst (v := (2 : Int32)) hx hb dX5_endTicket_75 (by decide) ?_
        refine lv_idiv hx hb dX5_endTicket_76 (by decide) ?_
        replace hF := lt_ex hF
        obtain ⟨S2, eS2, hF⟩ := hF
        refine pn4_12 hx hb hts hi5_endTicket_4 hown hK hW hS ha1 eS2 (nf_35 hN) dX5_endTicket_77 ?_
        clear hW hS; intro H locs hW hS
        obtain ⟨hq1, hq2⟩ := Prod.mk.inj (Option.some.inj hF)
        subst hq1
        subst hq2
        exact e_v hx hb hr hlk hK hN hW hS dX5_endTicket_80
    · replace hF := it_t hF hc
      refine lv_aload_n hx hb dX5_endTicket_41 rfl (lv_at hl 1 rfl) ?_
      refine lv_iconst (v := (5 : Int32)) hx hb dX5_endTicket_42 (by decide) ?_
      replace hF := lt_ex hF
      obtain ⟨S3, eS3, hF⟩ := hF
      refine pn4_6 hx hb hts hi5_endTicket_4 hown hK hW hS ha1 eS3 (nf_28 hN) dX5_endTicket_43 ?_
      clear hW hS; intro H locs hW hS
      refine lv_aload_n hx hb dX5_endTicket_46 rfl (lv_at hl 1 rfl) ?_
      refine lv_aload_n hx hb dX5_endTicket_47 rfl (lv_at hl 1 rfl) ?_
      refine gn4_5 hx hb hts hi5_endTicket_4 hown hK hW ha1 (nf_27 hN) dX5_endTicket_48 ?_
      replace hF := lt_ex hF
      obtain ⟨S4, eS4, hF⟩ := hF
      refine pn4_12 hx hb hts hi5_endTicket_4 hown hK hW hS ha1 eS4 (nf_35 hN) dX5_endTicket_51 ?_
      clear hW hS; intro H locs hW hS
      refine lv_goto (tgt := 80) hx hb dX5_endTicket_54 (by decide) ?_
      obtain ⟨hq1, hq2⟩ := Prod.mk.inj (Option.some.inj hF)
      subst hq1
      subst hq2
      exact e_v hx hb hr hlk hK hN hW hS dX5_endTicket_80
  · replace hF := it_t hF hc
    refine lv_aload_n hx hb dX5_endTicket_8 rfl (lv_at hl 1 rfl) ?_
    replace hF := lt_ex hF
    obtain ⟨r5, er5, hF⟩ := hF
    have hr5 : ∀ y, r5 = some y → y < N 2 := hW.v er5
    refine gn4_1 hx hb hts hi5_endTicket_4 hown hK hW ha1 er5 (nf_22 hN) dX5_endTicket_9 ?_
    replace hF := ob hF
    obtain ⟨t6, et6, hF⟩ := hF
    subst et6
    have ht6 := hr5 t6 rfl
    replace hF := lt_ex hF
    obtain ⟨r7, er7, hF⟩ := hF
    have hr7 : ∀ y, r7 = some y → y < N 3 := hW.v er7
    refine gn2_1 hx hb hts hi5_endTicket_2 hown hK hW ht6 er7 (nf_12 hN) dX5_endTicket_12 ?_
    refine lv_aload_n hx hb dX5_endTicket_15 rfl (lv_at hl 1 rfl) ?_
    replace hF := ob hF
    obtain ⟨t8, et8, hF⟩ := hF
    subst et8
    have ht8 := hr7 t8 rfl
    replace hF := ob2 hF
    obtain ⟨S9, P10, q11, hF⟩ := hF
    refine k_v (va_runVN (C := RX3) (As := [.ref (ad 4 a1)]) (rest := []) ⟨hx, hb, hml, hown, hts⟩ (c3_clearPlace l t8 a1 ht8 ha1 q11) ⟨va_cnB 1 hts gX5_endTicket_X3_clearPlace_n218 rfl rfl rfl (nm_6 hN) (hts (.initialized RX3) (by decide +kernel)) (by decide +kernel) ⟨Nat.le_of_ble_eq_true rfl, Nat.le_of_ble_eq_true rfl⟩, hts (.instanceMethod yX3_clearPlace) (by decide +kernel), hts (.selects RX3 yX3_clearPlace yX3_clearPlace) (by decide +kernel)⟩ (k_preV hW hK hN ht8 (EE_3 cA ad S P M t8) rfl) rfl rfl hl.1 rfl (lv_room (Nat.le_of_ble_eq_true rfl)) dX5_endTicket_16 ⟨Nat.le_of_ble_eq_true rfl, Nat.le_of_ble_eq_true rfl⟩) hS ?_
    clear hW hS; intro H locs hW hS
    refine lv_aload_n hx hb dX5_endTicket_19 rfl (lv_at hl 0 rfl) ?_
    refine lv_aload_n hx hb dX5_endTicket_20 rfl (lv_at hl 1 rfl) ?_
    replace hF := ob2 hF
    obtain ⟨S12, P13, q14, hF⟩ := hF
    refine k_v (va_runV (As := [.ref (ad 4 a1)]) (rest := []) ⟨hx, hb, hml, hown, hts⟩ (c5_freeCabin l a1 ha1 q14) (cwV 1 hts gX5_endTicket_X5_freeCabin rfl rfl rfl (by decide +kernel) ⟨Nat.le_of_ble_eq_true rfl, Nat.le_of_ble_eq_true rfl⟩) (k_preV hW hK hN (hW.fx 5 rfl) (EE_5 cA ad S9 P10 M 0) rfl) rfl rfl hl.1 rfl (lv_room (Nat.le_of_ble_eq_true rfl)) dX5_endTicket_21 ⟨Nat.le_of_ble_eq_true rfl, Nat.le_of_ble_eq_true rfl⟩) hS ?_
    clear hW hS; intro H locs hW hS
    refine lv_aload_n hx hb dX5_endTicket_24 rfl (lv_at hl 1 rfl) ?_
    refine lv_bipush (v := (6 : Int32)) hx hb dX5_endTicket_25 (by decide) ?_
    replace hF := lt_ex hF
    obtain ⟨S15, eS15, hF⟩ := hF
    refine pn4_6 hx hb hts hi5_endTicket_4 hown hK hW hS ha1 eS15 (nf_28 hN) dX5_endTicket_27 ?_
    clear hW hS; intro H locs hW hS
    refine lv_goto (tgt := 80) hx hb dX5_endTicket_30 (by decide) ?_
    obtain ⟨hq1, hq2⟩ := Prod.mk.inj (Option.some.inj hF)
    subst hq1
    subst hq2
    exact e_v hx hb hr hlk hK hN hW hS dX5_endTicket_80

set_option maxHeartbeats 4000000 in
set_option maxRecDepth 100000 in
theorem c5_endTicket (l : Launch) {D : va_G} {cA : Nat → ClassId} {z : Nat} {ad : Nat → Nat → Nat} {N : TN} {S : TS} {P : TP} {M : TS} (a1 : Nat) (ha1 : a1 < N 4) {S' : TS} {P' : TP} (hF : f5_endTicket S P a1 = some (S', P')) : Met l yX5_endTicket wsX5_endTicket rm5_endTicket (va_Pc [.ref (ad 5 0), .ref (ad 4 a1)] (Wl D cA z (ad, N, S, P, M))) (Qv D cA z (ad, N, S', P', M)) 0 0 (fun q => z ≤ q) := by
  refine Met.ofW (cc := cX5_endTicket) (maxL := 2) (ret := none) (by decide) rfl ?_
  intro p e s m args below meth c s₁ B hml hv
  obtain ⟨rfl, hW, hK, hN⟩ := hv
  have hl := lv_entry ([.ref (ad 5 0), .ref (ad 4 a1)]) (n := 2) (Nat.le_of_ble_eq_true rfl)
  rw [lg_entry_eq]
  generalize (lg_sl ([.ref (ad 5 0), .ref (ad 4 a1)]) ++ List.replicate (2 - (lg_sl ([.ref (ad 5 0), .ref (ad 4 a1)])).length) Slot.unset).toArray = ls at hl ⊢
  exact w5_endTicket ⟨B.exec, B.bytes, B.returns, hml, findClass_of_methodNamed B.named, atoms_spec (ws := wsX5_endTicket) B.pre, B.notSynchronized⟩ hK hN a1 ha1 hF hW va_S.rf hl

-- 5 depart
abbrev rm5_depart : Room := { frames := 5, cells := 0, slots := 0, locals := 109 }
def f5_depart_41 (K : TS → TP → Int32 → Option (Int32 × TS × TP)) (c2 : Nat) : Nat → TS → TP → Int32 → Int32 → Option (Int32 × TS × TP)
  | 0, _, _, _, _ => none
  | n + 1, S, P, y3, y4 =>
    if (S 507 0) ≤ y4 then
    (K S P y3)
    else
    ((ix y4 400).bind fun (j6 : Nat) =>
    lt (P 1000 0 j6) fun (r7 : Option Nat) =>
    r7.bind fun (t8 : Nat) =>
    lt (P 401 t8 0) fun (r9 : Option Nat) =>
    if r9 = (some c2) then
    (lt (if (S 406 t8) = (3 : Int32) then (1 : Int32) else (0 : Int32)) fun (x10 : Int32) =>
    b2 (f5_endTicket S P t8) fun (S11 : TS) (P12 : TP) =>
    f5_depart_41 K c2 n S11 P12 (y3 + x10) (y4 + 1))
    else
    (f5_depart_41 K c2 n S P y3 (y4 + 1)))

def f5_depart (S : TS) (P : TP) (a1 : Int32) : Option (Int32 × TS × TP) :=
  (f5_sailingNumbered S P a1).bind fun (r1 : Option Nat) =>
  r1.elim (some ((-1 : Int32), S, P))
  (fun (t3 : Nat) => if (S 204 t3) = (1 : Int32) then
  (if (S 206 t3) = (-1 : Int32) then
  ((f5_hasBoardingTurn S P t3).bind fun (v4 : Int32) =>
  if v4 = 0 then
  (f5_depart_41 (fun (S14 : TS) (P15 : TP) (w16 : Int32) =>
  lt (up S14 204 t3 (2 : Int32)) fun (S17 : TS) =>
  some (w16, S17, P15)) t3 FU S P (0 : Int32) (0 : Int32))
  else
  (some ((-1 : Int32), S, P)))
  else
  (some ((-1 : Int32), S, P)))
  else
  (some ((-1 : Int32), S, P)))
set_option maxRecDepth 20000 in
theorem hi5_depart_2 : ∀ w ∈ u_ws RX2 TX2 9, w ∈ wsX5_depart := by decide +kernel
set_option maxRecDepth 20000 in
theorem hi5_depart_4 : ∀ w ∈ u_ws RX4 TX4 16, w ∈ wsX5_depart := by decide +kernel
set_option maxRecDepth 20000 in
theorem hi5_depart_5 : ∀ w ∈ u_ws RX5 TX5 12, w ∈ wsX5_depart := by decide +kernel
set_option maxHeartbeats 4000000 in
set_option maxRecDepth 100000 in
theorem w5_depart_41 {p : Program} {l : Launch} {e : Env} {s : State} {m : MethodId} {args : Array Value} {below : List Frame} {meth : Method} {c : Code} (C : MC p s m args meth c cX5_depart (some .int) 6 RX5 wsX5_depart) {D : va_G} {cA : Nat → ClassId} {z : Nat} {ad : Nat → Nat → Nat} {N : TN} (hK : va_K D vwCl (tysW cA) s) (hN : NW s) {M : TS} (c2 : Nat) (hc2 : c2 < N 2) {v : Int32} {S' : TS} {P' : TP} {K : TS → TP → Int32 → Option (Int32 × TS × TP)}
    (hE : ∀ (S : TS) (P : TP) (e3 : Int32) (H : Heap) (locs : List Loc) (ls : Array Slot), K S P e3 = some (v, S', P') → Wd D cA z ad N S P M H → va_S (fun q => z ≤ q) s.heap H locs → lv_has ls 6 [(2, .ref (ad 2 c2)), (3, .int e3)] → W p l e rm5_depart s m args below meth c H locs 0 0 (MQ below (Qi D cA z v (ad, N, S', P', M)) args s 0 0 (fun q => z ≤ q)) (F0 m 97 ls [])) :
    ∀ (n : Nat) (S : TS) (P : TP) (y3 : Int32) (y4 : Int32) (H : Heap) (locs : List Loc) (ls : Array Slot), f5_depart_41 K c2 n S P y3 y4 = some (v, S', P') → Wd D cA z ad N S P M H → va_S (fun q => z ≤ q) s.heap H locs → lv_has ls 6 [(0, .ref (ad 5 0)), (2, .ref (ad 2 c2)), (3, .int y3), (4, .int y4)] → W p l e rm5_depart s m args below meth c H locs 0 0 (MQ below (Qi D cA z v (ad, N, S', P', M)) args s 0 0 (fun q => z ≤ q)) (F0 m 41 ls []) := by
  obtain ⟨hx, hb, hr, hml, hown, hts, hlk⟩ := id C
  intro n
  induction n with
  | zero => intro S P y3 y4 H locs ls hF; cases hF
  | succ n ih =>
    intro S P y3 y4 H locs ls hF hW hS hl
    rw [f5_depart_41] at hF
    refine lv_iload hx hb dX5_depart_41 (lv_at hl 3 rfl) ?_
    refine lv_aload_n hx hb dX5_depart_43 rfl (lv_at hl 0 rfl) ?_
    refine g5_7 hx hb hts hi5_depart_5 hown hK hW (hts (.fieldLink RX5 100 RX5 "ticketCount" "I") (by decide +kernel)) dX5_depart_44 ?_
    refine lv_icmp_ge (tgt := 97) hx hb dX5_depart_47 (by decide) (fun hc => ?_) (fun hc => ?_)
    · replace hF := it_t hF hc
      exact hE S P y3 _ _ _ hF hW hS (lv_sub hl [1, 2] rfl)
    · replace hF := it_f hF hc
      refine lv_aload_n hx hb dX5_depart_50 rfl (lv_at hl 0 rfl) ?_
      refine g5_6 hx hb hts hi5_depart_5 hown hK hW (hts (.fieldLink RX5 29 RX5 "tickets" "[LFerryTerminal$Ticket;") (by decide +kernel)) dX5_depart_51 ?_
      refine lv_iload hx hb dX5_depart_54 (lv_at hl 3 rfl) ?_
      replace hF := ob hF
      obtain ⟨j6, ej6, hF⟩ := hF
      replace hF := lt_ex hF
      obtain ⟨r7, er7, hF⟩ := hF
      have hr7 : ∀ y, r7 = some y → y < N 4 := hW.v er7
      refine l10 hx hb hK hW ej6 er7 dX5_depart_56 ?_
      refine q_astore (lv' := [(5, va_rf (r7.map (ad 4))), (0, .ref (ad 5 0)), (2, .ref (ad 2 c2)), (3, .int y3), (4, .int y4)]) hx hb dX5_depart_57 hl (by decide) rfl ?_
      clear hl; intro ls hl
      refine q_aload hx hb dX5_depart_59 (lv_at hl 0 rfl) ?_
      replace hF := ob hF
      obtain ⟨t8, et8, hF⟩ := hF
      subst et8
      have ht8 := hr7 t8 rfl
      replace hl : lv_has ls 6 [(5, .ref (ad 4 t8)), (0, .ref (ad 5 0)), (2, .ref (ad 2 c2)), (3, .int y3), (4, .int y4)] := hl
      replace hF := lt_ex hF
      obtain ⟨r9, er9, hF⟩ := hF
      have hr9 : ∀ y, r9 = some y → y < N 2 := hW.v er9
      refine gn4_1 hx hb hts hi5_depart_4 hown hK hW ht8 er9 (nf_22 hN) dX5_depart_61 ?_
      refine lv_aload_n hx hb dX5_depart_64 rfl (lv_at hl 2 rfl) ?_
      refine q_acmp_ne hx hb hW 2 r9 (some c2) hr9 (q_some hc2) (tgt := 91) dX5_depart_65 (by decide) (fun hc => ?_) (fun hc => ?_)
      · replace hF := it_f hF hc
        refine lv_iinc (v := y4 + 1) (lv' := [(4, .int (y4 + 1)), (5, .ref (ad 4 t8)), (0, .ref (ad 5 0)), (2, .ref (ad 2 c2)), (3, .int y3)]) hx hb dX5_depart_91 hl (k := 4) rfl rfl (by decide) rfl ?_
        clear hl; intro ls hl
        refine lv_goto (tgt := 41) hx hb dX5_depart_94 (by decide) ?_
        exact ih S P y3 (y4 + 1) _ _ _ hF hW hS (lv_sub hl [2, 3, 4, 0] rfl)
      · replace hF := it_t hF hc
        refine lv_iload_n hx hb dX5_depart_68 rfl (lv_at hl 3 rfl) ?_
        refine lv_aload hx hb dX5_depart_69 (lv_at hl 0 rfl) ?_
        refine gn4_6 hx hb hts hi5_depart_4 hown hK hW ht8 (nf_28 hN) dX5_depart_71 ?_
        refine lv_iconst (v := (3 : Int32)) hx hb dX5_depart_74 (by decide) ?_
        replace hF := lt_ex hF
        obtain ⟨x10, ex10, hF⟩ := hF
        have hJ : W p l e rm5_depart s m args below meth c H locs 0 0 (MQ below (Qi D cA z v (ad, N, S', P', M)) args s 0 0 (fun q => z ≤ q)) (F0 m 83 ls [.int x10, .int y3]) := by
          refine lv_iadd hx hb dX5_depart_83 ?_
          refine lv_istore_n (lv' := [(3, .int (y3 + x10)), (5, .ref (ad 4 t8)), (0, .ref (ad 5 0)), (2, .ref (ad 2 c2)), (4, .int y4)]) hx hb dX5_depart_84 rfl hl (by decide) rfl ?_
          clear hl; intro ls hl
          refine lv_aload_n hx hb dX5_depart_85 rfl (lv_at hl 2 rfl) ?_
          refine lv_aload hx hb dX5_depart_86 (lv_at hl 1 rfl) ?_
          replace hF := ob2 hF
          obtain ⟨S11, P12, q13, hF⟩ := hF
          refine k_v (va_runV (As := [.ref (ad 4 t8)]) (rest := []) ⟨hx, hb, hml, hown, hts⟩ (c5_endTicket l t8 ht8 q13) (cwV 1 hts gX5_depart_X5_endTicket rfl rfl rfl (by decide +kernel) ⟨Nat.le_of_ble_eq_true rfl, Nat.le_of_ble_eq_true rfl⟩) (k_preV hW hK hN (hW.fx 5 rfl) (EE_5 cA ad S P M 0) rfl) rfl rfl hl.1 rfl (lv_room (Nat.le_of_ble_eq_true rfl)) dX5_depart_88 ⟨Nat.le_of_ble_eq_true rfl, Nat.le_of_ble_eq_true rfl⟩) hS ?_
          clear hW hS; intro H locs hW hS
          refine lv_iinc (v := y4 + 1) (lv' := [(4, .int (y4 + 1)), (3, .int (y3 + x10)), (5, .ref (ad 4 t8)), (0, .ref (ad 5 0)), (2, .ref (ad 2 c2))]) hx hb dX5_depart_91 hl (k := 4) rfl rfl (by decide) rfl ?_
          clear hl; intro ls hl
          refine lv_goto (tgt := 41) hx hb dX5_depart_94 (by decide) ?_
          exact ih S11 P12 (y3 + x10) (y4 + 1) _ _ _ hF hW hS (lv_sub hl [3, 4, 1, 0] rfl)
        refine lv_icmp_ne (tgt := 82) hx hb dX5_depart_75 (by decide) (fun hc => ?_) (fun hc => ?_)
        · refine lv_iconst (v := (0 : Int32)) hx hb dX5_depart_82 (by decide) ?_
          exact W.eq (by rw [ex10, if_neg hc]) hJ
        · refine lv_iconst (v := (1 : Int32)) hx hb dX5_depart_78 (by decide) ?_
          refine lv_goto (tgt := 83) hx hb dX5_depart_79 (by decide) ?_
          exact W.eq (by rw [ex10, if_pos hc]) hJ

set_option maxHeartbeats 4000000 in
set_option maxRecDepth 100000 in
theorem w5_depart {p : Program} {l : Launch} {e : Env} {s : State} {m : MethodId} {args : Array Value} {below : List Frame} {meth : Method} {c : Code} (C : MC p s m args meth c cX5_depart (some .int) 6 RX5 wsX5_depart) {D : va_G} {cA : Nat → ClassId} {z : Nat} {ad : Nat → Nat → Nat} {N : TN} (hK : va_K D vwCl (tysW cA) s) (hN : NW s) {S : TS} {P : TP} {M : TS} (a1 : Int32) {v : Int32} {S' : TS} {P' : TP} (hF : f5_depart S P a1 = some (v, S', P'))
    {H : Heap} {ls : Array Slot} (hW : Wd D cA z ad N S P M H) {locs : List Loc} (hS : va_S (fun q => z ≤ q) s.heap H locs) (hl : lv_has ls 6 [(0, .ref (ad 5 0)), (1, .int a1)]) : W p l e rm5_depart s m args below meth c H locs 0 0 (MQ below (Qi D cA z v (ad, N, S', P', M)) args s 0 0 (fun q => z ≤ q)) (F0 m 0 ls []) := by
  obtain ⟨hx, hb, hr, hml, hown, hts, hlk⟩ := id C
  unfold f5_depart at hF
  refine lv_aload_n hx hb dX5_depart_0 rfl (lv_at hl 0 rfl) ?_
  refine lv_iload_n hx hb dX5_depart_1 rfl (lv_at hl 1 rfl) ?_
  replace hF := ob hF
  obtain ⟨r1, q2, hF⟩ := hF
  refine k_q (va_runV (As := [.int a1]) (rest := []) ⟨hx, hb, hml, hown, hts⟩ (c5_sailingNumbered l a1 q2) (cwV 1 hts gX5_depart_X5_sailingNumbered rfl rfl rfl (by decide +kernel) ⟨Nat.le_of_ble_eq_true rfl, Nat.le_of_ble_eq_true rfl⟩) (k_preV hW hK hN (hW.fx 5 rfl) (EE_5 cA ad S P M 0) rfl) rfl rfl hl.1 rfl (lv_room (Nat.le_of_ble_eq_true rfl)) dX5_depart_2 ⟨Nat.le_of_ble_eq_true rfl, Nat.le_of_ble_eq_true rfl⟩) hS (fun H locs hW hS hr1 => ?_)
  refine q_astore_n (lv' := [(2, va_rf (r1.map (ad 2))), (0, .ref (ad 5 0)), (1, .int a1)]) hx hb dX5_depart_5 rfl hl (by decide) rfl ?_
  clear hl; intro ls hl
  refine q_aload_n hx hb dX5_depart_6 rfl (lv_at hl 0 rfl) ?_
  refine q_ifnull (tgt := 34) hx hb dX5_depart_7 (by decide) (fun hc => ?_) (fun t3 hc => ?_)
  · subst hc
    replace hF := el_n hF
    replace hl : lv_has ls 6 [(2, .null), (0, .ref (ad 5 0)), (1, .int a1)] := hl
    refine lv_iconst (v := (-1 : Int32)) hx hb dX5_depart_34 (by decide) ?_
    obtain ⟨hq1, hq2⟩ := Prod.mk.inj (Option.some.inj hF)
    obtain ⟨hq2, hq3⟩ := Prod.mk.inj hq2
    subst hq1
    subst hq2
    subst hq3
    exact e_i hx hb hr hlk hK hN hW hS dX5_depart_35
  · subst hc
    replace hF := el_s hF
    have ht3 := hr1 t3 rfl
    replace hl : lv_has ls 6 [(2, .ref (ad 2 t3)), (0, .ref (ad 5 0)), (1, .int a1)] := hl
    refine lv_aload_n hx hb dX5_depart_10 rfl (lv_at hl 0 rfl) ?_
    refine gn2_4 hx hb hts hi5_depart_2 hown hK hW ht3 (nf_16 hN) dX5_depart_11 ?_
    refine lv_iconst (v := (1 : Int32)) hx hb dX5_depart_14 (by decide) ?_
    refine lv_icmp_ne (tgt := 34) hx hb dX5_depart_15 (by decide) (fun hc => ?_) (fun hc => ?_)
    · replace hF := it_f hF hc
      refine lv_iconst (v := (-1 : Int32)) hx hb dX5_depart_34 (by decide) ?_
      obtain ⟨hq1, hq2⟩ := Prod.mk.inj (Option.some.inj hF)
      obtain ⟨hq2, hq3⟩ := Prod.mk.inj hq2
      subst hq1
      subst hq2
      subst hq3
      exact e_i hx hb hr hlk hK hN hW hS dX5_depart_35
    · replace hF := it_t hF hc
      refine lv_aload_n hx hb dX5_depart_18 rfl (lv_at hl 0 rfl) ?_
      refine gn2_6 hx hb hts hi5_depart_2 hown hK hW ht3 (nf_18 hN) dX5_depart_19 ?_
      refine lv_iconst (v := (-1 : Int32)) hx hb dX5_depart_22 (by decide) ?_
      refine lv_icmp_ne (tgt := 34) hx hb dX5_depart_23 (by decide) (fun hc => ?_) (fun hc => ?_)
      · replace hF := it_f hF hc
        refine lv_iconst (v := (-1 : Int32)) hx hb dX5_depart_34 (by decide) ?_
        obtain ⟨hq1, hq2⟩ := Prod.mk.inj (Option.some.inj hF)
        obtain ⟨hq2, hq3⟩ := Prod.mk.inj hq2
        subst hq1
        subst hq2
        subst hq3
        exact e_i hx hb hr hlk hK hN hW hS dX5_depart_35
      · replace hF := it_t hF hc
        refine lv_aload_n hx hb dX5_depart_26 rfl (lv_at hl 1 rfl) ?_
        refine lv_aload_n hx hb dX5_depart_27 rfl (lv_at hl 0 rfl) ?_
        replace hF := ob hF
        obtain ⟨v4, q5, hF⟩ := hF
        refine k_i (va_runV (As := [.ref (ad 2 t3)]) (rest := []) ⟨hx, hb, hml, hown, hts⟩ (c5_hasBoardingTurn l t3 ht3 q5) (cwV 1 hts gX5_depart_X5_hasBoardingTurn rfl rfl rfl (by decide +kernel) ⟨Nat.le_of_ble_eq_true rfl, Nat.le_of_ble_eq_true rfl⟩) (k_preV hW hK hN (hW.fx 5 rfl) (EE_5 cA ad S P M 0) rfl) rfl rfl hl.1 rfl (lv_room (Nat.le_of_ble_eq_true rfl)) dX5_depart_28 ⟨Nat.le_of_ble_eq_true rfl, Nat.le_of_ble_eq_true rfl⟩) hS ?_
        clear hW hS; intro H locs hW hS
        refine lv_if_eq (tgt := 36) hx hb dX5_depart_31 (by decide) (fun hc => ?_) (fun hc => ?_)
        · replace hF := it_t hF hc
          refine lv_iconst (v := (0 : Int32)) hx hb dX5_depart_36 (by decide) ?_
          refine lv_istore_n (lv' := [(3, .int (0 : Int32)), (2, .ref (ad 2 t3)), (0, .ref (ad 5 0)), (1, .int a1)]) hx hb dX5_depart_37 rfl hl (by decide) rfl ?_
          clear hl; intro ls hl
          refine lv_iconst (v := (0 : Int32)) hx hb dX5_depart_38 (by decide) ?_
          refine lv_istore (lv' := [(4, .int (0 : Int32)), (3, .int (0 : Int32)), (2, .ref (ad 2 t3)), (0, .ref (ad 5 0)), (1, .int a1)]) hx hb dX5_depart_39 hl (by decide) rfl ?_
          clear hl; intro ls hl
          refine w5_depart_41 C hK hN t3 ht3 (hE := ?_) FU S P (0 : Int32) (0 : Int32) _ _ _ hF hW hS (lv_sub hl [3, 2, 1, 0] rfl)
          intro S14 P15 w16 H locs ls hF hW hS hl
          refine lv_aload_n hx hb dX5_depart_97 rfl (lv_at hl 0 rfl) ?_
          refine lv_iconst (v := (2 : Int32)) hx hb dX5_depart_98 (by decide) ?_
          replace hF := lt_ex hF
          obtain ⟨S17, eS17, hF⟩ := hF
          refine pn2_4 hx hb hts hi5_depart_2 hown hK hW hS ht3 eS17 (nf_16 hN) dX5_depart_99 ?_
          clear hW hS; intro H locs hW hS
          refine lv_iload_n hx hb dX5_depart_102 rfl (lv_at hl 1 rfl) ?_
          obtain ⟨hq1, hq2⟩ := Prod.mk.inj (Option.some.inj hF)
          obtain ⟨hq2, hq3⟩ := Prod.mk.inj hq2
          subst hq1
          subst hq2
          subst hq3
          exact e_i hx hb hr hlk hK hN hW hS dX5_depart_103
        · replace hF := it_f hF hc
          refine lv_iconst (v := (-1 : Int32)) hx hb dX5_depart_34 (by decide) ?_
          obtain ⟨hq1, hq2⟩ := Prod.mk.inj (Option.some.inj hF)
          obtain ⟨hq2, hq3⟩ := Prod.mk.inj hq2
          subst hq1
          subst hq2
          subst hq3
          exact e_i hx hb hr hlk hK hN hW hS dX5_depart_35

set_option maxHeartbeats 4000000 in
set_option maxRecDepth 100000 in
theorem c5_depart (l : Launch) {D : va_G} {cA : Nat → ClassId} {z : Nat} {ad : Nat → Nat → Nat} {N : TN} {S : TS} {P : TP} {M : TS} (a1 : Int32) {v : Int32} {S' : TS} {P' : TP} (hF : f5_depart S P a1 = some (v, S', P')) : Met l yX5_depart wsX5_depart rm5_depart (va_Pc [.ref (ad 5 0), .int a1] (Wl D cA z (ad, N, S, P, M))) (Qi D cA z v (ad, N, S', P', M)) 0 0 (fun q => z ≤ q) := by
  refine Met.ofW (cc := cX5_depart) (maxL := 6) (ret := (some .int)) (by decide) rfl ?_
  intro p e s m args below meth c s₁ B hml hv
  obtain ⟨rfl, hW, hK, hN⟩ := hv
  have hl := lv_entry ([.ref (ad 5 0), .int a1]) (n := 6) (Nat.le_of_ble_eq_true rfl)
  rw [lg_entry_eq]
  generalize (lg_sl ([.ref (ad 5 0), .int a1]) ++ List.replicate (6 - (lg_sl ([.ref (ad 5 0), .int a1])).length) Slot.unset).toArray = ls at hl ⊢
  exact w5_depart ⟨B.exec, B.bytes, B.returns, hml, findClass_of_methodNamed B.named, atoms_spec (ws := wsX5_depart) B.pre, B.notSynchronized⟩ hK hN a1 hF hW va_S.rf hl

-- 5 firstHere
abbrev rm5_firstHere : Room := { frames := 0, cells := 0, slots := 0, locals := 0 }
def f5_firstHere_4 (K : Option Nat → Option (Option Nat)) (S : TS) (P : TP) (c1 : Nat) : Nat → Option Nat → Int32 → Option (Option Nat)
  | 0, _, _ => none
  | n + 1, y2, y3 =>
    if (S 507 0) ≤ y3 then
    (K y2)
    else
    ((ix y3 400).bind fun (j1 : Nat) =>
    lt (P 1000 0 j1) fun (r2 : Option Nat) =>
    r2.bind fun (t3 : Nat) =>
    lt (P 401 t3 0) fun (r4 : Option Nat) =>
    if r4 = (some c1) then
    (if (S 406 t3) = (1 : Int32) then
    (y2.elim (f5_firstHere_4 K S P c1 n (some t3) (y3 + 1))
    (fun (t5 : Nat) => if (S 407 t5) ≤ (S 407 t3) then
    (f5_firstHere_4 K S P c1 n (some t5) (y3 + 1))
    else
    (f5_firstHere_4 K S P c1 n (some t3) (y3 + 1))))
    else
    (f5_firstHere_4 K S P c1 n y2 (y3 + 1)))
    else
    (f5_firstHere_4 K S P c1 n y2 (y3 + 1)))

def f5_firstHere (S : TS) (P : TP) (a1 : Nat) : Option (Option Nat) :=
  f5_firstHere_4 (fun (w6 : Option Nat) =>
  some w6) S P a1 FU none (0 : Int32)
set_option maxRecDepth 20000 in
theorem hi5_firstHere_4 : ∀ w ∈ u_ws RX4 TX4 16, w ∈ wsX5_firstHere := by decide +kernel
set_option maxRecDepth 20000 in
theorem hi5_firstHere_5 : ∀ w ∈ u_ws RX5 TX5 12, w ∈ wsX5_firstHere := by decide +kernel
set_option maxHeartbeats 4000000 in
set_option maxRecDepth 100000 in
theorem w5_firstHere_4 {p : Program} {l : Launch} {e : Env} {s : State} {m : MethodId} {args : Array Value} {below : List Frame} {meth : Method} {c : Code} (C : MC p s m args meth c cX5_firstHere (some (.object "FerryTerminal$Ticket")) 5 RX5 wsX5_firstHere) {D : va_G} {cA : Nat → ClassId} {z : Nat} {ad : Nat → Nat → Nat} {N : TN} (hK : va_K D vwCl (tysW cA) s) (hN : NW s) {M : TS} {S : TS} {P : TP} (c1 : Nat) (hc1 : c1 < N 2) {v : Option Nat} {K : Option Nat → Option (Option Nat)}
    (hE : ∀ (e2 : Option Nat) (H : Heap) (locs : List Loc) (ls : Array Slot), (∀ y, e2 = some y → y < N 4) → K e2 = some v → Wd D cA z ad N S P M H → va_S (fun q => z ≤ q) s.heap H locs → lv_has ls 5 [(2, va_rf (e2.map (ad 4)))] → W p l e rm5_firstHere s m args below meth c H locs 0 0 (MQ below (Qq D cA z 4 v (ad, N, S, P, M)) args s 0 0 (fun q => z ≤ q)) (F0 m 63 ls [])) :
    ∀ (n : Nat) (y2 : Option Nat) (y3 : Int32) (H : Heap) (locs : List Loc) (ls : Array Slot), (∀ y, y2 = some y → y < N 4) → f5_firstHere_4 K S P c1 n y2 y3 = some v → Wd D cA z ad N S P M H → va_S (fun q => z ≤ q) s.heap H locs → lv_has ls 5 [(0, .ref (ad 5 0)), (1, .ref (ad 2 c1)), (2, va_rf (y2.map (ad 4))), (3, .int y3)] → W p l e rm5_firstHere s m args below meth c H locs 0 0 (MQ below (Qq D cA z 4 v (ad, N, S, P, M)) args s 0 0 (fun q => z ≤ q)) (F0 m 4 ls []) := by
  obtain ⟨hx, hb, hr, hml, hown, hts, hlk⟩ := id C
  intro n
  induction n with
  | zero => intro y2 y3 H locs ls hy2 hF; cases hF
  | succ n ih =>
    intro y2 y3 H locs ls hy2 hF hW hS hl
    rw [f5_firstHere_4] at hF
    refine lv_iload_n hx hb dX5_firstHere_4 rfl (lv_at hl 3 rfl) ?_
    refine lv_aload_n hx hb dX5_firstHere_5 rfl (lv_at hl 0 rfl) ?_
    refine g5_7 hx hb hts hi5_firstHere_5 hown hK hW (hts (.fieldLink RX5 100 RX5 "ticketCount" "I") (by decide +kernel)) dX5_firstHere_6 ?_
    refine lv_icmp_ge (tgt := 63) hx hb dX5_firstHere_9 (by decide) (fun hc => ?_) (fun hc => ?_)
    · replace hF := it_t hF hc
      exact hE y2 _ _ _ hy2 hF hW hS (lv_sub hl [2] rfl)
    · replace hF := it_f hF hc
      refine lv_aload_n hx hb dX5_firstHere_12 rfl (lv_at hl 0 rfl) ?_
      refine g5_6 hx hb hts hi5_firstHere_5 hown hK hW (hts (.fieldLink RX5 29 RX5 "tickets" "[LFerryTerminal$Ticket;") (by decide +kernel)) dX5_firstHere_13 ?_
      refine lv_iload_n hx hb dX5_firstHere_16 rfl (lv_at hl 3 rfl) ?_
      replace hF := ob hF
      obtain ⟨j1, ej1, hF⟩ := hF
      replace hF := lt_ex hF
      obtain ⟨r2, er2, hF⟩ := hF
      have hr2 : ∀ y, r2 = some y → y < N 4 := hW.v er2
      refine l10 hx hb hK hW ej1 er2 dX5_firstHere_17 ?_
      refine q_astore (lv' := [(4, va_rf (r2.map (ad 4))), (0, .ref (ad 5 0)), (1, .ref (ad 2 c1)), (2, va_rf (y2.map (ad 4))), (3, .int y3)]) hx hb dX5_firstHere_18 hl (by decide) rfl ?_
      clear hl; intro ls hl
      refine q_aload hx hb dX5_firstHere_20 (lv_at hl 0 rfl) ?_
      replace hF := ob hF
      obtain ⟨t3, et3, hF⟩ := hF
      subst et3
      have ht3 := hr2 t3 rfl
      replace hl : lv_has ls 5 [(4, .ref (ad 4 t3)), (0, .ref (ad 5 0)), (1, .ref (ad 2 c1)), (2, va_rf (y2.map (ad 4))), (3, .int y3)] := hl
      replace hF := lt_ex hF
      obtain ⟨r4, er4, hF⟩ := hF
      have hr4 : ∀ y, r4 = some y → y < N 2 := hW.v er4
      refine gn4_1 hx hb hts hi5_firstHere_4 hown hK hW ht3 er4 (nf_22 hN) dX5_firstHere_22 ?_
      refine lv_aload_n hx hb dX5_firstHere_25 rfl (lv_at hl 2 rfl) ?_
      refine q_acmp_ne hx hb hW 2 r4 (some c1) hr4 (q_some hc1) (tgt := 57) dX5_firstHere_26 (by decide) (fun hc => ?_) (fun hc => ?_)
      · replace hF := it_f hF hc
        refine lv_iinc (v := y3 + 1) (lv' := [(3, .int (y3 + 1)), (4, .ref (ad 4 t3)), (0, .ref (ad 5 0)), (1, .ref (ad 2 c1)), (2, va_rf (y2.map (ad 4)))]) hx hb dX5_firstHere_57 hl (k := 4) rfl rfl (by decide) (by cases y2 <;> rfl) ?_
        clear hl; intro ls hl
        refine lv_goto (tgt := 4) hx hb dX5_firstHere_60 (by decide) ?_
        exact ih y2 (y3 + 1) _ _ _ hy2 hF hW hS (lv_sub hl [2, 3, 4, 0] rfl)
      · replace hF := it_t hF hc
        refine lv_aload hx hb dX5_firstHere_29 (lv_at hl 0 rfl) ?_
        refine gn4_6 hx hb hts hi5_firstHere_4 hown hK hW ht3 (nf_28 hN) dX5_firstHere_31 ?_
        refine lv_iconst (v := (1 : Int32)) hx hb dX5_firstHere_34 (by decide) ?_
        refine lv_icmp_ne (tgt := 57) hx hb dX5_firstHere_35 (by decide) (fun hc => ?_) (fun hc => ?_)
        · replace hF := it_f hF hc
          refine lv_iinc (v := y3 + 1) (lv' := [(3, .int (y3 + 1)), (4, .ref (ad 4 t3)), (0, .ref (ad 5 0)), (1, .ref (ad 2 c1)), (2, va_rf (y2.map (ad 4)))]) hx hb dX5_firstHere_57 hl (k := 4) rfl rfl (by decide) (by cases y2 <;> rfl) ?_
          clear hl; intro ls hl
          refine lv_goto (tgt := 4) hx hb dX5_firstHere_60 (by decide) ?_
          exact ih y2 (y3 + 1) _ _ _ hy2 hF hW hS (lv_sub hl [2, 3, 4, 0] rfl)
        · replace hF := it_t hF hc
          refine q_aload_n hx hb dX5_firstHere_38 rfl (lv_at hl 3 rfl) ?_
          refine q_ifnull (tgt := 54) hx hb dX5_firstHere_39 (by decide) (fun hc => ?_) (fun t5 hc => ?_)
          · subst hc
            replace hF := el_n hF
            replace hl : lv_has ls 5 [(4, .ref (ad 4 t3)), (0, .ref (ad 5 0)), (1, .ref (ad 2 c1)), (2, .null), (3, .int y3)] := hl
            refine lv_aload hx hb dX5_firstHere_54 (lv_at hl 0 rfl) ?_
            refine lv_astore_n (lv' := [(2, .ref (ad 4 t3)), (4, .ref (ad 4 t3)), (0, .ref (ad 5 0)), (1, .ref (ad 2 c1)), (3, .int y3)]) hx hb dX5_firstHere_56 rfl hl (by decide) rfl ?_
            clear hl; intro ls hl
            refine lv_iinc (v := y3 + 1) (lv' := [(3, .int (y3 + 1)), (2, .ref (ad 4 t3)), (4, .ref (ad 4 t3)), (0, .ref (ad 5 0)), (1, .ref (ad 2 c1))]) hx hb dX5_firstHere_57 hl (k := 4) rfl rfl (by decide) rfl ?_
            clear hl; intro ls hl
            refine lv_goto (tgt := 4) hx hb dX5_firstHere_60 (by decide) ?_
            exact ih (some t3) (y3 + 1) _ _ _ (q_some ht3) hF hW hS (lv_sub hl [3, 4, 1, 0] rfl)
          · subst hc
            replace hF := el_s hF
            have ht5 := hy2 t5 rfl
            replace hl : lv_has ls 5 [(4, .ref (ad 4 t3)), (0, .ref (ad 5 0)), (1, .ref (ad 2 c1)), (2, .ref (ad 4 t5)), (3, .int y3)] := hl
            refine lv_aload hx hb dX5_firstHere_42 (lv_at hl 0 rfl) ?_
            refine gn4_7 hx hb hts hi5_firstHere_4 hown hK hW ht3 (nf_29 hN) dX5_firstHere_44 ?_
            refine lv_aload_n hx hb dX5_firstHere_47 rfl (lv_at hl 3 rfl) ?_
            refine gn4_7 hx hb hts hi5_firstHere_4 hown hK hW ht5 (nf_29 hN) dX5_firstHere_48 ?_
            refine lv_icmp_ge (tgt := 57) hx hb dX5_firstHere_51 (by decide) (fun hc => ?_) (fun hc => ?_)
            · replace hF := it_t hF hc
              refine lv_iinc (v := y3 + 1) (lv' := [(3, .int (y3 + 1)), (4, .ref (ad 4 t3)), (0, .ref (ad 5 0)), (1, .ref (ad 2 c1)), (2, .ref (ad 4 t5))]) hx hb dX5_firstHere_57 hl (k := 4) rfl rfl (by decide) rfl ?_
              clear hl; intro ls hl
              refine lv_goto (tgt := 4) hx hb dX5_firstHere_60 (by decide) ?_
              exact ih (some t5) (y3 + 1) _ _ _ (q_some ht5) hF hW hS (lv_sub hl [2, 3, 4, 0] rfl)
            · replace hF := it_f hF hc
              refine lv_aload hx hb dX5_firstHere_54 (lv_at hl 0 rfl) ?_
              refine lv_astore_n (lv' := [(2, .ref (ad 4 t3)), (4, .ref (ad 4 t3)), (0, .ref (ad 5 0)), (1, .ref (ad 2 c1)), (3, .int y3)]) hx hb dX5_firstHere_56 rfl hl (by decide) rfl ?_
              clear hl; intro ls hl
              refine lv_iinc (v := y3 + 1) (lv' := [(3, .int (y3 + 1)), (2, .ref (ad 4 t3)), (4, .ref (ad 4 t3)), (0, .ref (ad 5 0)), (1, .ref (ad 2 c1))]) hx hb dX5_firstHere_57 hl (k := 4) rfl rfl (by decide) rfl ?_
              clear hl; intro ls hl
              refine lv_goto (tgt := 4) hx hb dX5_firstHere_60 (by decide) ?_
              exact ih (some t3) (y3 + 1) _ _ _ (q_some ht3) hF hW hS (lv_sub hl [3, 4, 1, 0] rfl)

set_option maxHeartbeats 4000000 in
set_option maxRecDepth 100000 in
theorem w5_firstHere {p : Program} {l : Launch} {e : Env} {s : State} {m : MethodId} {args : Array Value} {below : List Frame} {meth : Method} {c : Code} (C : MC p s m args meth c cX5_firstHere (some (.object "FerryTerminal$Ticket")) 5 RX5 wsX5_firstHere) {D : va_G} {cA : Nat → ClassId} {z : Nat} {ad : Nat → Nat → Nat} {N : TN} (hK : va_K D vwCl (tysW cA) s) (hN : NW s) {S : TS} {P : TP} {M : TS} (a1 : Nat) (ha1 : a1 < N 2) {v : Option Nat} (hF : f5_firstHere S P a1 = some v)
    {H : Heap} {ls : Array Slot} (hW : Wd D cA z ad N S P M H) {locs : List Loc} (hS : va_S (fun q => z ≤ q) s.heap H locs) (hl : lv_has ls 5 [(0, .ref (ad 5 0)), (1, .ref (ad 2 a1))]) : W p l e rm5_firstHere s m args below meth c H locs 0 0 (MQ below (Qq D cA z 4 v (ad, N, S, P, M)) args s 0 0 (fun q => z ≤ q)) (F0 m 0 ls []) := by
  obtain ⟨hx, hb, hr, hml, hown, hts, hlk⟩ := id C
  unfold f5_firstHere at hF
  refine lv_null hx hb dX5_firstHere_0 ?_
  refine q_astore_n (lv' := [(2, .null), (0, .ref (ad 5 0)), (1, .ref (ad 2 a1))]) (r := none) hx hb dX5_firstHere_1 rfl hl (by decide) rfl ?_
  clear hl; intro ls hl
  refine lv_iconst (v := (0 : Int32)) hx hb dX5_firstHere_2 (by decide) ?_
  refine lv_istore_n (lv' := [(3, .int (0 : Int32)), (2, .null), (0, .ref (ad 5 0)), (1, .ref (ad 2 a1))]) hx hb dX5_firstHere_3 rfl hl (by decide) rfl ?_
  clear hl; intro ls hl
  refine w5_firstHere_4 C hK hN a1 ha1 (hE := ?_) FU none (0 : Int32) _ _ _ q_none hF hW hS (lv_sub hl [2, 3, 1, 0] rfl)
  intro w6 H locs ls hw6 hF hW hS hl
  refine q_aload_n hx hb dX5_firstHere_63 rfl (lv_at hl 0 rfl) ?_
  have hq1 := Option.some.inj hF
  subst hq1
  exact e_q (v := w6) hx hb hr hlk hK hN hW hS hw6 dX5_firstHere_64

set_option maxHeartbeats 4000000 in
set_option maxRecDepth 100000 in
theorem c5_firstHere (l : Launch) {D : va_G} {cA : Nat → ClassId} {z : Nat} {ad : Nat → Nat → Nat} {N : TN} {S : TS} {P : TP} {M : TS} (a1 : Nat) (ha1 : a1 < N 2) {v : Option Nat} (hF : f5_firstHere S P a1 = some v) : Met l yX5_firstHere wsX5_firstHere rm5_firstHere (va_Pc [.ref (ad 5 0), .ref (ad 2 a1)] (Wl D cA z (ad, N, S, P, M))) (Qq D cA z 4 v (ad, N, S, P, M)) 0 0 (fun q => z ≤ q) := by
  refine Met.ofW (cc := cX5_firstHere) (maxL := 5) (ret := (some (.object "FerryTerminal$Ticket"))) (by decide) rfl ?_
  intro p e s m args below meth c s₁ B hml hv
  obtain ⟨rfl, hW, hK, hN⟩ := hv
  have hl := lv_entry ([.ref (ad 5 0), .ref (ad 2 a1)]) (n := 5) (Nat.le_of_ble_eq_true rfl)
  rw [lg_entry_eq]
  generalize (lg_sl ([.ref (ad 5 0), .ref (ad 2 a1)]) ++ List.replicate (5 - (lg_sl ([.ref (ad 5 0), .ref (ad 2 a1)])).length) Slot.unset).toArray = ls at hl ⊢
  exact w5_firstHere ⟨B.exec, B.bytes, B.returns, hml, findClass_of_methodNamed B.named, atoms_spec (ws := wsX5_firstHere) B.pre, B.notSynchronized⟩ hK hN a1 ha1 hF hW va_S.rf hl

-- 5 writeLog
abbrev rm5_writeLog : Room := { frames := 0, cells := 0, slots := 0, locals := 0 }
def f5_writeLog (S : TS) (P : TP) (a1 : Int32) (a2 : Nat) (a3 : Nat) : Option (TS × TP) :=
  lt (fun (S1 : TS) (P2 : TP) => (lt (up S1 511 0 ((S1 511 0) + (1 : Int32))) fun (S3 : TS) =>
  lt (up S3 205 a3 ((S3 205 a3) + (1 : Int32))) fun (S4 : TS) =>
  some (S4, P2))) fun (K46 : TS → TP → Option (TS × TP)) =>
  if (3000 : Int32) ≤ (S 511 0) then
  (K46 S P)
  else
  ((ix (S 511 0) 3000).bind fun (j5 : Nat) =>
  lt (up S 1100 j5 a1) fun (S6 : TS) =>
  (ix (S6 511 0) 3000).bind fun (j7 : Nat) =>
  lt (up S6 1200 j7 (S6 400 a2)) fun (S8 : TS) =>
  (ix (S8 511 0) 3000).bind fun (j9 : Nat) =>
  lt (up S8 1300 j9 (S8 200 a3)) fun (S10 : TS) =>
  K46 S10 P)
set_option maxRecDepth 20000 in
theorem hi5_writeLog_2 : ∀ w ∈ u_ws RX2 TX2 9, w ∈ wsX5_writeLog := by decide +kernel
set_option maxRecDepth 20000 in
theorem hi5_writeLog_4 : ∀ w ∈ u_ws RX4 TX4 16, w ∈ wsX5_writeLog := by decide +kernel
set_option maxRecDepth 20000 in
theorem hi5_writeLog_5 : ∀ w ∈ u_ws RX5 TX5 12, w ∈ wsX5_writeLog := by decide +kernel
set_option maxHeartbeats 4000000 in
set_option maxRecDepth 100000 in
theorem w5_writeLog {p : Program} {l : Launch} {e : Env} {s : State} {m : MethodId} {args : Array Value} {below : List Frame} {meth : Method} {c : Code} (C : MC p s m args meth c cX5_writeLog none 4 RX5 wsX5_writeLog) {D : va_G} {cA : Nat → ClassId} {z : Nat} {ad : Nat → Nat → Nat} {N : TN} (hK : va_K D vwCl (tysW cA) s) (hN : NW s) {S : TS} {P : TP} {M : TS} (a1 : Int32) (a2 : Nat) (a3 : Nat) (ha2 : a2 < N 4) (ha3 : a3 < N 2) {S' : TS} {P' : TP} (hF : f5_writeLog S P a1 a2 a3 = some (S', P'))
    {H : Heap} {ls : Array Slot} (hW : Wd D cA z ad N S P M H) {locs : List Loc} (hS : va_S (fun q => z ≤ q) s.heap H locs) (hl : lv_has ls 4 [(0, .ref (ad 5 0)), (1, .int a1), (2, .ref (ad 4 a2)), (3, .ref (ad 2 a3))]) : W p l e rm5_writeLog s m args below meth c H locs 0 0 (MQ below (Qv D cA z (ad, N, S', P', M)) args s 0 0 (fun q => z ≤ q)) (F0 m 0 ls []) := by
  obtain ⟨hx, hb, hr, hml, hown, hts, hlk⟩ := id C
  unfold f5_writeLog at hF
  refine lv_aload_n hx hb dX5_writeLog_0 rfl (lv_at hl 0 rfl) ?_
  refine g5_11 hx hb hts hi5_writeLog_5 hown hK hW (hts (.fieldLink RX5 159 RX5 "turnsEver" "I") (by decide +kernel)) dX5_writeLog_1 ?_
  refine lv_sipush (v := (3000 : Int32)) hx hb dX5_writeLog_4 (by decide) ?_
  replace hF := lt_ex hF
  obtain ⟨K46, eK46, hF⟩ := hF
  have hK46 : ∀ (S1 : TS) (P2 : TP) (H : Heap) (locs : List Loc) (ls : Array Slot), K46 S1 P2 = some (S', P') → Wd D cA z ad N S1 P2 M H → va_S (fun q => z ≤ q) s.heap H locs → lv_has ls 4 [(0, .ref (ad 5 0)), (3, .ref (ad 2 a3))] → W p l e rm5_writeLog s m args below meth c H locs 0 0 (MQ below (Qv D cA z (ad, N, S', P', M)) args s 0 0 (fun q => z ≤ q)) (F0 m 46 ls []) := by
    intro S1 P2 H locs ls hF hW hS hl
    subst eK46
    refine lv_aload_n hx hb dX5_writeLog_46 rfl (lv_at hl 0 rfl) ?_
    refine lv_dup hx hb dX5_writeLog_47 rfl ?_
    refine g5_11 hx hb hts hi5_writeLog_5 hown hK hW (hts (.fieldLink RX5 159 RX5 "turnsEver" "I") (by decide +kernel)) dX5_writeLog_48 ?_
    refine lv_iconst (v := (1 : Int32)) hx hb dX5_writeLog_51 (by decide) ?_
    refine lv_iadd hx hb dX5_writeLog_52 ?_
    replace hF := lt_ex hF
    obtain ⟨S3, eS3, hF⟩ := hF
    refine p5_11 hx hb hts hi5_writeLog_5 hown hK hW hS eS3 (hts (.fieldLink RX5 159 RX5 "turnsEver" "I") (by decide +kernel)) dX5_writeLog_53 ?_
    clear hW hS; intro H locs hW hS
    refine lv_aload_n hx hb dX5_writeLog_56 rfl (lv_at hl 1 rfl) ?_
    refine lv_dup hx hb dX5_writeLog_57 rfl ?_
    refine gn2_5 hx hb hts hi5_writeLog_2 hown hK hW ha3 (nf_17 hN) dX5_writeLog_58 ?_
    refine lv_iconst (v := (1 : Int32)) hx hb dX5_writeLog_61 (by decide) ?_
    refine lv_iadd hx hb dX5_writeLog_62 ?_
    replace hF := lt_ex hF
    obtain ⟨S4, eS4, hF⟩ := hF
    refine pn2_5 hx hb hts hi5_writeLog_2 hown hK hW hS ha3 eS4 (nf_17 hN) dX5_writeLog_63 ?_
    clear hW hS; intro H locs hW hS
    obtain ⟨hq1, hq2⟩ := Prod.mk.inj (Option.some.inj hF)
    subst hq1
    subst hq2
    exact e_v hx hb hr hlk hK hN hW hS dX5_writeLog_66
  clear eK46
  refine lv_icmp_ge (tgt := 46) hx hb dX5_writeLog_7 (by decide) (fun hc => ?_) (fun hc => ?_)
  · replace hF := it_t hF hc
    exact hK46 S P _ _ _ hF hW hS (lv_sub hl [0, 3] rfl)
  · replace hF := it_f hF hc
    refine lv_aload_n hx hb dX5_writeLog_10 rfl (lv_at hl 0 rfl) ?_
    refine g5_8 hx hb hts hi5_writeLog_5 hown hK hW (hts (.fieldLink RX5 33 RX5 "logKinds" "[I") (by decide +kernel)) dX5_writeLog_11 ?_
    refine lv_aload_n hx hb dX5_writeLog_14 rfl (lv_at hl 0 rfl) ?_
    refine g5_11 hx hb hts hi5_writeLog_5 hown hK hW (hts (.fieldLink RX5 159 RX5 "turnsEver" "I") (by decide +kernel)) dX5_writeLog_15 ?_
    refine lv_iload_n hx hb dX5_writeLog_18 rfl (lv_at hl 1 rfl) ?_
    replace hF := ob hF
    obtain ⟨j5, ej5, hF⟩ := hF
    replace hF := lt_ex hF
    obtain ⟨S6, eS6, hF⟩ := hF
    refine t11 hx hb hK hW hS ej5 eS6 dX5_writeLog_19 ?_
    clear hW hS; intro H locs hW hS
    refine lv_aload_n hx hb dX5_writeLog_20 rfl (lv_at hl 0 rfl) ?_
    refine g5_9 hx hb hts hi5_writeLog_5 hown hK hW (hts (.fieldLink RX5 37 RX5 "logTickets" "[I") (by decide +kernel)) dX5_writeLog_21 ?_
    refine lv_aload_n hx hb dX5_writeLog_24 rfl (lv_at hl 0 rfl) ?_
    refine g5_11 hx hb hts hi5_writeLog_5 hown hK hW (hts (.fieldLink RX5 159 RX5 "turnsEver" "I") (by decide +kernel)) dX5_writeLog_25 ?_
    refine lv_aload_n hx hb dX5_writeLog_28 rfl (lv_at hl 2 rfl) ?_
    refine gn4_0 hx hb hts hi5_writeLog_4 hown hK hW ha2 (nf_21 hN) dX5_writeLog_29 ?_
    replace hF := ob hF
    obtain ⟨j7, ej7, hF⟩ := hF
    replace hF := lt_ex hF
    obtain ⟨S8, eS8, hF⟩ := hF
    refine t12 hx hb hK hW hS ej7 eS8 dX5_writeLog_32 ?_
    clear hW hS; intro H locs hW hS
    refine lv_aload_n hx hb dX5_writeLog_33 rfl (lv_at hl 0 rfl) ?_
    refine g5_10 hx hb hts hi5_writeLog_5 hown hK hW (hts (.fieldLink RX5 40 RX5 "logSailings" "[I") (by decide +kernel)) dX5_writeLog_34 ?_
    refine lv_aload_n hx hb dX5_writeLog_37 rfl (lv_at hl 0 rfl) ?_
    refine g5_11 hx hb hts hi5_writeLog_5 hown hK hW (hts (.fieldLink RX5 159 RX5 "turnsEver" "I") (by decide +kernel)) dX5_writeLog_38 ?_
    refine lv_aload_n hx hb dX5_writeLog_41 rfl (lv_at hl 3 rfl) ?_
    refine gn2_0 hx hb hts hi5_writeLog_2 hown hK hW ha3 (nf_11 hN) dX5_writeLog_42 ?_
    replace hF := ob hF
    obtain ⟨j9, ej9, hF⟩ := hF
    replace hF := lt_ex hF
    obtain ⟨S10, eS10, hF⟩ := hF
    refine t13 hx hb hK hW hS ej9 eS10 dX5_writeLog_45 ?_
    clear hW hS; intro H locs hW hS
    exact hK46 S10 P _ _ _ hF hW hS (lv_sub hl [0, 3] rfl)

set_option maxHeartbeats 4000000 in
set_option maxRecDepth 100000 in
theorem c5_writeLog (l : Launch) {D : va_G} {cA : Nat → ClassId} {z : Nat} {ad : Nat → Nat → Nat} {N : TN} {S : TS} {P : TP} {M : TS} (a1 : Int32) (a2 : Nat) (a3 : Nat) (ha2 : a2 < N 4) (ha3 : a3 < N 2) {S' : TS} {P' : TP} (hF : f5_writeLog S P a1 a2 a3 = some (S', P')) : Met l yX5_writeLog wsX5_writeLog rm5_writeLog (va_Pc [.ref (ad 5 0), .int a1, .ref (ad 4 a2), .ref (ad 2 a3)] (Wl D cA z (ad, N, S, P, M))) (Qv D cA z (ad, N, S', P', M)) 0 0 (fun q => z ≤ q) := by
  refine Met.ofW (cc := cX5_writeLog) (maxL := 4) (ret := none) (by decide) rfl ?_
  intro p e s m args below meth c s₁ B hml hv
  obtain ⟨rfl, hW, hK, hN⟩ := hv
  have hl := lv_entry ([.ref (ad 5 0), .int a1, .ref (ad 4 a2), .ref (ad 2 a3)]) (n := 4) (Nat.le_of_ble_eq_true rfl)
  rw [lg_entry_eq]
  generalize (lg_sl ([.ref (ad 5 0), .int a1, .ref (ad 4 a2), .ref (ad 2 a3)]) ++ List.replicate (4 - (lg_sl ([.ref (ad 5 0), .int a1, .ref (ad 4 a2), .ref (ad 2 a3)])).length) Slot.unset).toArray = ls at hl ⊢
  exact w5_writeLog ⟨B.exec, B.bytes, B.returns, hml, findClass_of_methodNamed B.named, atoms_spec (ws := wsX5_writeLog) B.pre, B.notSynchronized⟩ hK hN a1 a2 a3 ha2 ha3 hF hW va_S.rf hl

-- 5 takeFreeCabin
abbrev rm5_takeFreeCabin : Room := { frames := 0, cells := 0, slots := 0, locals := 0 }
def f5_takeFreeCabin_2 (K : TS → TP → Option (Int32 × TS × TP)) (c1 : Nat) (c2 : Int32) : Nat → TS → TP → Int32 → Option (Int32 × TS × TP)
  | 0, _, _, _ => none
  | n + 1, S, P, y3 =>
    if (S 503 0) ≤ y3 then
    (K S P)
    else
    ((ix y3 120).bind fun (j1 : Nat) =>
    lt (P 800 0 j1) fun (r2 : Option Nat) =>
    r2.bind fun (t3 : Nat) =>
    lt (P 100 t3 0) fun (r4 : Option Nat) =>
    if r4 = (some c1) then
    (if (S 102 t3) = 0 then
    (if (S 101 t3) < c2 then
    (f5_takeFreeCabin_2 K c1 c2 n S P (y3 + 1))
    else
    (lt (up S 102 t3 (1 : Int32)) fun (S5 : TS) =>
    some (y3, S5, P)))
    else
    (f5_takeFreeCabin_2 K c1 c2 n S P (y3 + 1)))
    else
    (f5_takeFreeCabin_2 K c1 c2 n S P (y3 + 1)))

def f5_takeFreeCabin (S : TS) (P : TP) (a1 : Nat) (a2 : Int32) : Option (Int32 × TS × TP) :=
  f5_takeFreeCabin_2 (fun (S6 : TS) (P7 : TP) =>
  some ((-1 : Int32), S6, P7)) a1 a2 FU S P (0 : Int32)
set_option maxRecDepth 20000 in
theorem hi5_takeFreeCabin_1 : ∀ w ∈ u_ws RX1 TX1 3, w ∈ wsX5_takeFreeCabin := by decide +kernel
set_option maxRecDepth 20000 in
theorem hi5_takeFreeCabin_5 : ∀ w ∈ u_ws RX5 TX5 12, w ∈ wsX5_takeFreeCabin := by decide +kernel
set_option maxHeartbeats 4000000 in
set_option maxRecDepth 100000 in
theorem w5_takeFreeCabin_2 {p : Program} {l : Launch} {e : Env} {s : State} {m : MethodId} {args : Array Value} {below : List Frame} {meth : Method} {c : Code} (C : MC p s m args meth c cX5_takeFreeCabin (some .int) 5 RX5 wsX5_takeFreeCabin) {D : va_G} {cA : Nat → ClassId} {z : Nat} {ad : Nat → Nat → Nat} {N : TN} (hK : va_K D vwCl (tysW cA) s) (hN : NW s) {M : TS} (c1 : Nat) (c2 : Int32) (hc1 : c1 < N 3) {v : Int32} {S' : TS} {P' : TP} {K : TS → TP → Option (Int32 × TS × TP)}
    (hE : ∀ (S : TS) (P : TP) (H : Heap) (locs : List Loc) (ls : Array Slot), K S P = some (v, S', P') → Wd D cA z ad N S P M H → va_S (fun q => z ≤ q) s.heap H locs → lv_has ls 5 [] → W p l e rm5_takeFreeCabin s m args below meth c H locs 0 0 (MQ below (Qi D cA z v (ad, N, S', P', M)) args s 0 0 (fun q => z ≤ q)) (F0 m 58 ls [])) :
    ∀ (n : Nat) (S : TS) (P : TP) (y3 : Int32) (H : Heap) (locs : List Loc) (ls : Array Slot), f5_takeFreeCabin_2 K c1 c2 n S P y3 = some (v, S', P') → Wd D cA z ad N S P M H → va_S (fun q => z ≤ q) s.heap H locs → lv_has ls 5 [(0, .ref (ad 5 0)), (1, .ref (ad 3 c1)), (2, .int c2), (3, .int y3)] → W p l e rm5_takeFreeCabin s m args below meth c H locs 0 0 (MQ below (Qi D cA z v (ad, N, S', P', M)) args s 0 0 (fun q => z ≤ q)) (F0 m 2 ls []) := by
  obtain ⟨hx, hb, hr, hml, hown, hts, hlk⟩ := id C
  intro n
  induction n with
  | zero => intro S P y3 H locs ls hF; cases hF
  | succ n ih =>
    intro S P y3 H locs ls hF hW hS hl
    rw [f5_takeFreeCabin_2] at hF
    refine lv_iload_n hx hb dX5_takeFreeCabin_2 rfl (lv_at hl 3 rfl) ?_
    refine lv_aload_n hx hb dX5_takeFreeCabin_3 rfl (lv_at hl 0 rfl) ?_
    refine g5_3 hx hb hts hi5_takeFreeCabin_5 hown hK hW (hts (.fieldLink RX5 58 RX5 "cabinCount" "I") (by decide +kernel)) dX5_takeFreeCabin_4 ?_
    refine lv_icmp_ge (tgt := 58) hx hb dX5_takeFreeCabin_7 (by decide) (fun hc => ?_) (fun hc => ?_)
    · replace hF := it_t hF hc
      exact hE S P _ _ _ hF hW hS (lv_sub hl [] rfl)
    · replace hF := it_f hF hc
      refine lv_aload_n hx hb dX5_takeFreeCabin_10 rfl (lv_at hl 0 rfl) ?_
      refine g5_2 hx hb hts hi5_takeFreeCabin_5 hown hK hW (hts (.fieldLink RX5 17 RX5 "cabins" "[LFerryTerminal$Cabin;") (by decide +kernel)) dX5_takeFreeCabin_11 ?_
      refine lv_iload_n hx hb dX5_takeFreeCabin_14 rfl (lv_at hl 3 rfl) ?_
      replace hF := ob hF
      obtain ⟨j1, ej1, hF⟩ := hF
      replace hF := lt_ex hF
      obtain ⟨r2, er2, hF⟩ := hF
      have hr2 : ∀ y, r2 = some y → y < N 1 := hW.v er2
      refine l8 hx hb hK hW ej1 er2 dX5_takeFreeCabin_15 ?_
      refine q_astore (lv' := [(4, va_rf (r2.map (ad 1))), (0, .ref (ad 5 0)), (1, .ref (ad 3 c1)), (2, .int c2), (3, .int y3)]) hx hb dX5_takeFreeCabin_16 hl (by decide) rfl ?_
      clear hl; intro ls hl
      refine q_aload hx hb dX5_takeFreeCabin_18 (lv_at hl 0 rfl) ?_
      replace hF := ob hF
      obtain ⟨t3, et3, hF⟩ := hF
      subst et3
      have ht3 := hr2 t3 rfl
      replace hl : lv_has ls 5 [(4, .ref (ad 1 t3)), (0, .ref (ad 5 0)), (1, .ref (ad 3 c1)), (2, .int c2), (3, .int y3)] := hl
      replace hF := lt_ex hF
      obtain ⟨r4, er4, hF⟩ := hF
      have hr4 : ∀ y, r4 = some y → y < N 3 := hW.v er4
      refine gn1_0 hx hb hts hi5_takeFreeCabin_1 hown hK hW ht3 er4 (nf_7 hN) dX5_takeFreeCabin_20 ?_
      refine lv_aload_n hx hb dX5_takeFreeCabin_23 rfl (lv_at hl 2 rfl) ?_
      refine q_acmp_ne hx hb hW 3 r4 (some c1) hr4 (q_some hc1) (tgt := 52) dX5_takeFreeCabin_24 (by decide) (fun hc => ?_) (fun hc => ?_)
      · replace hF := it_f hF hc
        refine lv_iinc (v := y3 + 1) (lv' := [(3, .int (y3 + 1)), (4, .ref (ad 1 t3)), (0, .ref (ad 5 0)), (1, .ref (ad 3 c1)), (2, .int c2)]) hx hb dX5_takeFreeCabin_52 hl (k := 4) rfl rfl (by decide) rfl ?_
        clear hl; intro ls hl
        refine lv_goto (tgt := 2) hx hb dX5_takeFreeCabin_55 (by decide) ?_
        exact ih S P (y3 + 1) _ _ _ hF hW hS (lv_sub hl [2, 3, 4, 0] rfl)
      · replace hF := it_t hF hc
        refine lv_aload hx hb dX5_takeFreeCabin_27 (lv_at hl 0 rfl) ?_
        refine gn1_2 hx hb hts hi5_takeFreeCabin_1 hown hK hW ht3 (nf_9 hN) dX5_takeFreeCabin_29 ?_
        refine lv_if_ne (tgt := 52) hx hb dX5_takeFreeCabin_32 (by decide) (fun hc => ?_) (fun hc => ?_)
        · replace hF := it_f hF hc
          refine lv_iinc (v := y3 + 1) (lv' := [(3, .int (y3 + 1)), (4, .ref (ad 1 t3)), (0, .ref (ad 5 0)), (1, .ref (ad 3 c1)), (2, .int c2)]) hx hb dX5_takeFreeCabin_52 hl (k := 4) rfl rfl (by decide) rfl ?_
          clear hl; intro ls hl
          refine lv_goto (tgt := 2) hx hb dX5_takeFreeCabin_55 (by decide) ?_
          exact ih S P (y3 + 1) _ _ _ hF hW hS (lv_sub hl [2, 3, 4, 0] rfl)
        · replace hF := it_t hF hc
          refine lv_aload hx hb dX5_takeFreeCabin_35 (lv_at hl 0 rfl) ?_
          refine gn1_1 hx hb hts hi5_takeFreeCabin_1 hown hK hW ht3 (nf_8 hN) dX5_takeFreeCabin_37 ?_
          refine lv_iload_n hx hb dX5_takeFreeCabin_40 rfl (lv_at hl 3 rfl) ?_
          refine lv_icmp_lt (tgt := 52) hx hb dX5_takeFreeCabin_41 (by decide) (fun hc => ?_) (fun hc => ?_)
          · replace hF := it_t hF hc
            refine lv_iinc (v := y3 + 1) (lv' := [(3, .int (y3 + 1)), (4, .ref (ad 1 t3)), (0, .ref (ad 5 0)), (1, .ref (ad 3 c1)), (2, .int c2)]) hx hb dX5_takeFreeCabin_52 hl (k := 4) rfl rfl (by decide) rfl ?_
            clear hl; intro ls hl
            refine lv_goto (tgt := 2) hx hb dX5_takeFreeCabin_55 (by decide) ?_
            exact ih S P (y3 + 1) _ _ _ hF hW hS (lv_sub hl [2, 3, 4, 0] rfl)
          · replace hF := it_f hF hc
            refine lv_aload hx hb dX5_takeFreeCabin_44 (lv_at hl 0 rfl) ?_
            refine lv_iconst (v := (1 : Int32)) hx hb dX5_takeFreeCabin_46 (by decide) ?_
            replace hF := lt_ex hF
            obtain ⟨S5, eS5, hF⟩ := hF
            refine pn1_2 hx hb hts hi5_takeFreeCabin_1 hown hK hW hS ht3 (by decide) eS5 (nf_9 hN) dX5_takeFreeCabin_47 ?_
            clear hW hS; intro H locs hW hS
            refine lv_iload_n hx hb dX5_takeFreeCabin_50 rfl (lv_at hl 4 rfl) ?_
            obtain ⟨hq1, hq2⟩ := Prod.mk.inj (Option.some.inj hF)
            obtain ⟨hq2, hq3⟩ := Prod.mk.inj hq2
            subst hq1
            subst hq2
            subst hq3
            exact e_i hx hb hr hlk hK hN hW hS dX5_takeFreeCabin_51

set_option maxHeartbeats 4000000 in
set_option maxRecDepth 100000 in
theorem w5_takeFreeCabin {p : Program} {l : Launch} {e : Env} {s : State} {m : MethodId} {args : Array Value} {below : List Frame} {meth : Method} {c : Code} (C : MC p s m args meth c cX5_takeFreeCabin (some .int) 5 RX5 wsX5_takeFreeCabin) {D : va_G} {cA : Nat → ClassId} {z : Nat} {ad : Nat → Nat → Nat} {N : TN} (hK : va_K D vwCl (tysW cA) s) (hN : NW s) {S : TS} {P : TP} {M : TS} (a1 : Nat) (a2 : Int32) (ha1 : a1 < N 3) {v : Int32} {S' : TS} {P' : TP} (hF : f5_takeFreeCabin S P a1 a2 = some (v, S', P'))
    {H : Heap} {ls : Array Slot} (hW : Wd D cA z ad N S P M H) {locs : List Loc} (hS : va_S (fun q => z ≤ q) s.heap H locs) (hl : lv_has ls 5 [(0, .ref (ad 5 0)), (1, .ref (ad 3 a1)), (2, .int a2)]) : W p l e rm5_takeFreeCabin s m args below meth c H locs 0 0 (MQ below (Qi D cA z v (ad, N, S', P', M)) args s 0 0 (fun q => z ≤ q)) (F0 m 0 ls []) := by
  obtain ⟨hx, hb, hr, hml, hown, hts, hlk⟩ := id C
  unfold f5_takeFreeCabin at hF
  refine lv_iconst (v := (0 : Int32)) hx hb dX5_takeFreeCabin_0 (by decide) ?_
  refine lv_istore_n (lv' := [(3, .int (0 : Int32)), (0, .ref (ad 5 0)), (1, .ref (ad 3 a1)), (2, .int a2)]) hx hb dX5_takeFreeCabin_1 rfl hl (by decide) rfl ?_
  clear hl; intro ls hl
  refine w5_takeFreeCabin_2 C hK hN a1 a2 ha1 (hE := ?_) FU S P (0 : Int32) _ _ _ hF hW hS (lv_sub hl [1, 2, 3, 0] rfl)
  intro S6 P7 H locs ls hF hW hS hl
  refine lv_iconst (v := (-1 : Int32)) hx hb dX5_takeFreeCabin_58 (by decide) ?_
  obtain ⟨hq1, hq2⟩ := Prod.mk.inj (Option.some.inj hF)
  obtain ⟨hq2, hq3⟩ := Prod.mk.inj hq2
  subst hq1
  subst hq2
  subst hq3
  exact e_i hx hb hr hlk hK hN hW hS dX5_takeFreeCabin_59

set_option maxHeartbeats 4000000 in
set_option maxRecDepth 100000 in
theorem c5_takeFreeCabin (l : Launch) {D : va_G} {cA : Nat → ClassId} {z : Nat} {ad : Nat → Nat → Nat} {N : TN} {S : TS} {P : TP} {M : TS} (a1 : Nat) (a2 : Int32) (ha1 : a1 < N 3) {v : Int32} {S' : TS} {P' : TP} (hF : f5_takeFreeCabin S P a1 a2 = some (v, S', P')) : Met l yX5_takeFreeCabin wsX5_takeFreeCabin rm5_takeFreeCabin (va_Pc [.ref (ad 5 0), .ref (ad 3 a1), .int a2] (Wl D cA z (ad, N, S, P, M))) (Qi D cA z v (ad, N, S', P', M)) 0 0 (fun q => z ≤ q) := by
  refine Met.ofW (cc := cX5_takeFreeCabin) (maxL := 5) (ret := (some .int)) (by decide) rfl ?_
  intro p e s m args below meth c s₁ B hml hv
  obtain ⟨rfl, hW, hK, hN⟩ := hv
  have hl := lv_entry ([.ref (ad 5 0), .ref (ad 3 a1), .int a2]) (n := 5) (Nat.le_of_ble_eq_true rfl)
  rw [lg_entry_eq]
  generalize (lg_sl ([.ref (ad 5 0), .ref (ad 3 a1), .int a2]) ++ List.replicate (5 - (lg_sl ([.ref (ad 5 0), .ref (ad 3 a1), .int a2])).length) Slot.unset).toArray = ls at hl ⊢
  exact w5_takeFreeCabin ⟨B.exec, B.bytes, B.returns, hml, findClass_of_methodNamed B.named, atoms_spec (ws := wsX5_takeFreeCabin) B.pre, B.notSynchronized⟩ hK hN a1 a2 ha1 hF hW va_S.rf hl

-- 5 goOnAfterRamp
abbrev rm5_goOnAfterRamp : Room := { frames := 1, cells := 0, slots := 0, locals := 24 }
def f5_goOnAfterRamp (S : TS) (P : TP) (a1 : Nat) (a2 : Nat) : Option (TS × TP) :=
  if (S 208 a1) = 0 then
  (lt (up3 P 207 a1 0 none) fun (P1 : TP) =>
  b2 (f5_writeLog S P1 (5 : Int32) a2 a1) fun (S2 : TS) (P3 : TP) =>
  some (S2, P3))
  else
  (lt (up S 208 a1 (0 : Int32)) fun (S5 : TS) =>
  lt (P 201 a1 0) fun (r6 : Option Nat) =>
  r6.bind fun (t7 : Nat) =>
  b3 (f5_takeFreeCabin S5 P t7 (S5 404 a2)) fun (v8 : Int32) (S9 : TS) (P10 : TP) =>
  lt (up S9 411 a2 v8) fun (S12 : TS) =>
  lt (if (S12 411 a2) = (-1 : Int32) then (4 : Int32) else (3 : Int32)) fun (x13 : Int32) =>
  b2 (f5_writeLog S12 P10 x13 a2 a1) fun (S14 : TS) (P15 : TP) =>
  some (S14, P15))
set_option maxRecDepth 20000 in
theorem hi5_goOnAfterRamp_2 : ∀ w ∈ u_ws RX2 TX2 9, w ∈ wsX5_goOnAfterRamp := by decide +kernel
set_option maxRecDepth 20000 in
theorem hi5_goOnAfterRamp_4 : ∀ w ∈ u_ws RX4 TX4 16, w ∈ wsX5_goOnAfterRamp := by decide +kernel
set_option maxHeartbeats 4000000 in
set_option maxRecDepth 100000 in
theorem w5_goOnAfterRamp {p : Program} {l : Launch} {e : Env} {s : State} {m : MethodId} {args : Array Value} {below : List Frame} {meth : Method} {c : Code} (C : MC p s m args meth c cX5_goOnAfterRamp none 3 RX5 wsX5_goOnAfterRamp) {D : va_G} {cA : Nat → ClassId} {z : Nat} {ad : Nat → Nat → Nat} {N : TN} (hK : va_K D vwCl (tysW cA) s) (hN : NW s) {S : TS} {P : TP} {M : TS} (a1 : Nat) (a2 : Nat) (ha1 : a1 < N 2) (ha2 : a2 < N 4) {S' : TS} {P' : TP} (hF : f5_goOnAfterRamp S P a1 a2 = some (S', P'))
    {H : Heap} {ls : Array Slot} (hW : Wd D cA z ad N S P M H) {locs : List Loc} (hS : va_S (fun q => z ≤ q) s.heap H locs) (hl : lv_has ls 3 [(0, .ref (ad 5 0)), (1, .ref (ad 2 a1)), (2, .ref (ad 4 a2))]) : W p l e rm5_goOnAfterRamp s m args below meth c H locs 0 0 (MQ below (Qv D cA z (ad, N, S', P', M)) args s 0 0 (fun q => z ≤ q)) (F0 m 0 ls []) := by
  obtain ⟨hx, hb, hr, hml, hown, hts, hlk⟩ := id C
  unfold f5_goOnAfterRamp at hF
  refine lv_aload_n hx hb dX5_goOnAfterRamp_0 rfl (lv_at hl 1 rfl) ?_
  refine gn2_8 hx hb hts hi5_goOnAfterRamp_2 hown hK hW ha1 (nf_20 hN) dX5_goOnAfterRamp_1 ?_
  refine lv_if_eq (tgt := 50) hx hb dX5_goOnAfterRamp_4 (by decide) (fun hc => ?_) (fun hc => ?_)
  · replace hF := it_t hF hc
    refine lv_aload_n hx hb dX5_goOnAfterRamp_50 rfl (lv_at hl 1 rfl) ?_
    refine lv_null hx hb dX5_goOnAfterRamp_51 ?_
    replace hF := lt_ex hF
    obtain ⟨P1, eP1, hF⟩ := hF
    refine pn2_7 (r := none) hx hb hts hi5_goOnAfterRamp_2 hown hK hW hS ha1 q_none eP1 (nf_19 hN) dX5_goOnAfterRamp_52 ?_
    clear hW hS; intro H locs hW hS
    refine lv_aload_n hx hb dX5_goOnAfterRamp_55 rfl (lv_at hl 0 rfl) ?_
    refine lv_iconst (v := (5 : Int32)) hx hb dX5_goOnAfterRamp_56 (by decide) ?_
    refine lv_aload_n hx hb dX5_goOnAfterRamp_57 rfl (lv_at hl 2 rfl) ?_
    refine lv_aload_n hx hb dX5_goOnAfterRamp_58 rfl (lv_at hl 1 rfl) ?_
    replace hF := ob2 hF
    obtain ⟨S2, P3, q4, hF⟩ := hF
    refine k_v (va_runV (As := [.int (5 : Int32), .ref (ad 4 a2), .ref (ad 2 a1)]) (rest := []) ⟨hx, hb, hml, hown, hts⟩ (c5_writeLog l (5 : Int32) a2 a1 ha2 ha1 q4) (cwV 3 hts gX5_goOnAfterRamp_X5_writeLog rfl rfl rfl (by decide +kernel) ⟨Nat.le_of_ble_eq_true rfl, Nat.le_of_ble_eq_true rfl⟩) (k_preV hW hK hN (hW.fx 5 rfl) (EE_5 cA ad S P1 M 0) rfl) rfl rfl hl.1 rfl (lv_room (Nat.le_of_ble_eq_true rfl)) dX5_goOnAfterRamp_59 ⟨Nat.le_of_ble_eq_true rfl, Nat.le_of_ble_eq_true rfl⟩) hS ?_
    clear hW hS; intro H locs hW hS
    obtain ⟨hq1, hq2⟩ := Prod.mk.inj (Option.some.inj hF)
    subst hq1
    subst hq2
    exact e_v hx hb hr hlk hK hN hW hS dX5_goOnAfterRamp_62
  · replace hF := it_f hF hc
    refine lv_aload_n hx hb dX5_goOnAfterRamp_7 rfl (lv_at hl 1 rfl) ?_
    refine lv_iconst (v := (0 : Int32)) hx hb dX5_goOnAfterRamp_8 (by decide) ?_
    replace hF := lt_ex hF
    obtain ⟨S5, eS5, hF⟩ := hF
    refine pn2_8 hx hb hts hi5_goOnAfterRamp_2 hown hK hW hS ha1 (by decide) eS5 (nf_20 hN) dX5_goOnAfterRamp_9 ?_
    clear hW hS; intro H locs hW hS
    refine lv_aload_n hx hb dX5_goOnAfterRamp_12 rfl (lv_at hl 2 rfl) ?_
    refine lv_aload_n hx hb dX5_goOnAfterRamp_13 rfl (lv_at hl 0 rfl) ?_
    refine lv_aload_n hx hb dX5_goOnAfterRamp_14 rfl (lv_at hl 1 rfl) ?_
    replace hF := lt_ex hF
    obtain ⟨r6, er6, hF⟩ := hF
    have hr6 : ∀ y, r6 = some y → y < N 3 := hW.v er6
    refine gn2_1 hx hb hts hi5_goOnAfterRamp_2 hown hK hW ha1 er6 (nf_12 hN) dX5_goOnAfterRamp_15 ?_
    refine lv_aload_n hx hb dX5_goOnAfterRamp_18 rfl (lv_at hl 2 rfl) ?_
    refine gn4_4 hx hb hts hi5_goOnAfterRamp_4 hown hK hW ha2 (nf_26 hN) dX5_goOnAfterRamp_19 ?_
    replace hF := ob hF
    obtain ⟨t7, et7, hF⟩ := hF
    subst et7
    have ht7 := hr6 t7 rfl
    replace hF := ob3 hF
    obtain ⟨v8, S9, P10, q11, hF⟩ := hF
    refine k_i (va_runV (As := [.ref (ad 3 t7), .int (S5 404 a2)]) (rest := [.ref (ad 4 a2)]) ⟨hx, hb, hml, hown, hts⟩ (c5_takeFreeCabin l t7 (S5 404 a2) ht7 q11) (cwV 2 hts gX5_goOnAfterRamp_X5_takeFreeCabin rfl rfl rfl (by decide +kernel) ⟨Nat.le_of_ble_eq_true rfl, Nat.le_of_ble_eq_true rfl⟩) (k_preV hW hK hN (hW.fx 5 rfl) (EE_5 cA ad S5 P M 0) rfl) rfl rfl hl.1 rfl (lv_room (Nat.le_of_ble_eq_true rfl)) dX5_goOnAfterRamp_22 ⟨Nat.le_of_ble_eq_true rfl, Nat.le_of_ble_eq_true rfl⟩) hS ?_
    clear hW hS; intro H locs hW hS
    replace hF := lt_ex hF
    obtain ⟨S12, eS12, hF⟩ := hF
    refine pn4_11 hx hb hts hi5_goOnAfterRamp_4 hown hK hW hS ha2 eS12 (nf_34 hN) dX5_goOnAfterRamp_25 ?_
    clear hW hS; intro H locs hW hS
    refine lv_aload_n hx hb dX5_goOnAfterRamp_28 rfl (lv_at hl 0 rfl) ?_
    refine lv_aload_n hx hb dX5_goOnAfterRamp_29 rfl (lv_at hl 2 rfl) ?_
    refine gn4_11 hx hb hts hi5_goOnAfterRamp_4 hown hK hW ha2 (nf_34 hN) dX5_goOnAfterRamp_30 ?_
    refine lv_iconst (v := (-1 : Int32)) hx hb dX5_goOnAfterRamp_33 (by decide) ?_
    replace hF := lt_ex hF
    obtain ⟨x13, ex13, hF⟩ := hF
    have hJ : W p l e rm5_goOnAfterRamp s m args below meth c H locs 0 0 (MQ below (Qv D cA z (ad, N, S', P', M)) args s 0 0 (fun q => z ≤ q)) (F0 m 42 ls [.int x13, .ref (ad 5 0)]) := by
      refine lv_aload_n hx hb dX5_goOnAfterRamp_42 rfl (lv_at hl 2 rfl) ?_
      refine lv_aload_n hx hb dX5_goOnAfterRamp_43 rfl (lv_at hl 1 rfl) ?_
      replace hF := ob2 hF
      obtain ⟨S14, P15, q16, hF⟩ := hF
      refine k_v (va_runV (As := [.int x13, .ref (ad 4 a2), .ref (ad 2 a1)]) (rest := []) ⟨hx, hb, hml, hown, hts⟩ (c5_writeLog l x13 a2 a1 ha2 ha1 q16) (cwV 3 hts gX5_goOnAfterRamp_X5_writeLog rfl rfl rfl (by decide +kernel) ⟨Nat.le_of_ble_eq_true rfl, Nat.le_of_ble_eq_true rfl⟩) (k_preV hW hK hN (hW.fx 5 rfl) (EE_5 cA ad S12 P10 M 0) rfl) rfl rfl hl.1 rfl (lv_room (Nat.le_of_ble_eq_true rfl)) dX5_goOnAfterRamp_44 ⟨Nat.le_of_ble_eq_true rfl, Nat.le_of_ble_eq_true rfl⟩) hS ?_
      clear hW hS; intro H locs hW hS
      refine lv_goto (tgt := 62) hx hb dX5_goOnAfterRamp_47 (by decide) ?_
      obtain ⟨hq1, hq2⟩ := Prod.mk.inj (Option.some.inj hF)
      subst hq1
      subst hq2
      exact e_v hx hb hr hlk hK hN hW hS dX5_goOnAfterRamp_62
    refine lv_icmp_ne (tgt := 41) hx hb dX5_goOnAfterRamp_34 (by decide) (fun hc => ?_) (fun hc => ?_)
    · refine lv_iconst (v := (3 : Int32)) hx hb dX5_goOnAfterRamp_41 (by decide) ?_
      exact W.eq (by rw [ex13, if_neg hc]) hJ
    · refine lv_iconst (v := (4 : Int32)) hx hb dX5_goOnAfterRamp_37 (by decide) ?_
      refine lv_goto (tgt := 42) hx hb dX5_goOnAfterRamp_38 (by decide) ?_
      exact W.eq (by rw [ex13, if_pos hc]) hJ

set_option maxHeartbeats 4000000 in
set_option maxRecDepth 100000 in
theorem c5_goOnAfterRamp (l : Launch) {D : va_G} {cA : Nat → ClassId} {z : Nat} {ad : Nat → Nat → Nat} {N : TN} {S : TS} {P : TP} {M : TS} (a1 : Nat) (a2 : Nat) (ha1 : a1 < N 2) (ha2 : a2 < N 4) {S' : TS} {P' : TP} (hF : f5_goOnAfterRamp S P a1 a2 = some (S', P')) : Met l yX5_goOnAfterRamp wsX5_goOnAfterRamp rm5_goOnAfterRamp (va_Pc [.ref (ad 5 0), .ref (ad 2 a1), .ref (ad 4 a2)] (Wl D cA z (ad, N, S, P, M))) (Qv D cA z (ad, N, S', P', M)) 0 0 (fun q => z ≤ q) := by
  refine Met.ofW (cc := cX5_goOnAfterRamp) (maxL := 3) (ret := none) (by decide) rfl ?_
  intro p e s m args below meth c s₁ B hml hv
  obtain ⟨rfl, hW, hK, hN⟩ := hv
  have hl := lv_entry ([.ref (ad 5 0), .ref (ad 2 a1), .ref (ad 4 a2)]) (n := 3) (Nat.le_of_ble_eq_true rfl)
  rw [lg_entry_eq]
  generalize (lg_sl ([.ref (ad 5 0), .ref (ad 2 a1), .ref (ad 4 a2)]) ++ List.replicate (3 - (lg_sl ([.ref (ad 5 0), .ref (ad 2 a1), .ref (ad 4 a2)])).length) Slot.unset).toArray = ls at hl ⊢
  exact w5_goOnAfterRamp ⟨B.exec, B.bytes, B.returns, hml, findClass_of_methodNamed B.named, atoms_spec (ws := wsX5_goOnAfterRamp) B.pre, B.notSynchronized⟩ hK hN a1 a2 ha1 ha2 hF hW va_S.rf hl

-- 5 firstOfBoardingList
abbrev rm5_firstOfBoardingList : Room := { frames := 2, cells := 0, slots := 0, locals := 41 }
def f5_firstOfBoardingList_4 (K : Option Nat → Option (Option Nat)) (S : TS) (P : TP) (c1 : Nat) : Nat → Option Nat → Int32 → Option (Option Nat)
  | 0, _, _ => none
  | n + 1, y2, y3 =>
    if (S 507 0) ≤ y3 then
    (K y2)
    else
    ((ix y3 400).bind fun (j1 : Nat) =>
    lt (P 1000 0 j1) fun (r2 : Option Nat) =>
    r2.bind fun (t3 : Nat) =>
    lt (P 401 t3 0) fun (r4 : Option Nat) =>
    if r4 = (some c1) then
    (if (S 406 t3) = (2 : Int32) then
    (y2.elim (f5_firstOfBoardingList_4 K S P c1 n (some t3) (y3 + 1))
    (fun (t5 : Nat) => (f4_boardsAheadOf S P t3 t5).bind fun (v6 : Int32) =>
    if v6 = 0 then
    (f5_firstOfBoardingList_4 K S P c1 n (some t5) (y3 + 1))
    else
    (f5_firstOfBoardingList_4 K S P c1 n (some t3) (y3 + 1))))
    else
    (f5_firstOfBoardingList_4 K S P c1 n y2 (y3 + 1)))
    else
    (f5_firstOfBoardingList_4 K S P c1 n y2 (y3 + 1)))

def f5_firstOfBoardingList (S : TS) (P : TP) (a1 : Nat) : Option (Option Nat) :=
  f5_firstOfBoardingList_4 (fun (w8 : Option Nat) =>
  some w8) S P a1 FU none (0 : Int32)
set_option maxRecDepth 20000 in
theorem hi5_firstOfBoardingList_4 : ∀ w ∈ u_ws RX4 TX4 16, w ∈ wsX5_firstOfBoardingList := by decide +kernel
set_option maxRecDepth 20000 in
theorem hi5_firstOfBoardingList_5 : ∀ w ∈ u_ws RX5 TX5 12, w ∈ wsX5_firstOfBoardingList := by decide +kernel
set_option maxHeartbeats 4000000 in
set_option maxRecDepth 100000 in
theorem w5_firstOfBoardingList_4 {p : Program} {l : Launch} {e : Env} {s : State} {m : MethodId} {args : Array Value} {below : List Frame} {meth : Method} {c : Code} (C : MC p s m args meth c cX5_firstOfBoardingList (some (.object "FerryTerminal$Ticket")) 5 RX5 wsX5_firstOfBoardingList) {D : va_G} {cA : Nat → ClassId} {z : Nat} {ad : Nat → Nat → Nat} {N : TN} (hK : va_K D vwCl (tysW cA) s) (hN : NW s) {M : TS} {S : TS} {P : TP} (c1 : Nat) (hc1 : c1 < N 2) {v : Option Nat} {K : Option Nat → Option (Option Nat)}
    (hE : ∀ (e2 : Option Nat) (H : Heap) (locs : List Loc) (ls : Array Slot), (∀ y, e2 = some y → y < N 4) → K e2 = some v → Wd D cA z ad N S P M H → va_S (fun q => z ≤ q) s.heap H locs → lv_has ls 5 [(2, va_rf (e2.map (ad 4)))] → W p l e rm5_firstOfBoardingList s m args below meth c H locs 0 0 (MQ below (Qq D cA z 4 v (ad, N, S, P, M)) args s 0 0 (fun q => z ≤ q)) (F0 m 60 ls [])) :
    ∀ (n : Nat) (y2 : Option Nat) (y3 : Int32) (H : Heap) (locs : List Loc) (ls : Array Slot), (∀ y, y2 = some y → y < N 4) → f5_firstOfBoardingList_4 K S P c1 n y2 y3 = some v → Wd D cA z ad N S P M H → va_S (fun q => z ≤ q) s.heap H locs → lv_has ls 5 [(0, .ref (ad 5 0)), (1, .ref (ad 2 c1)), (2, va_rf (y2.map (ad 4))), (3, .int y3)] → W p l e rm5_firstOfBoardingList s m args below meth c H locs 0 0 (MQ below (Qq D cA z 4 v (ad, N, S, P, M)) args s 0 0 (fun q => z ≤ q)) (F0 m 4 ls []) := by
  obtain ⟨hx, hb, hr, hml, hown, hts, hlk⟩ := id C
  intro n
  induction n with
  | zero => intro y2 y3 H locs ls hy2 hF; cases hF
  | succ n ih =>
    intro y2 y3 H locs ls hy2 hF hW hS hl
    rw [f5_firstOfBoardingList_4] at hF
    refine lv_iload_n hx hb dX5_firstOfBoardingList_4 rfl (lv_at hl 3 rfl) ?_
    refine lv_aload_n hx hb dX5_firstOfBoardingList_5 rfl (lv_at hl 0 rfl) ?_
    refine g5_7 hx hb hts hi5_firstOfBoardingList_5 hown hK hW (hts (.fieldLink RX5 100 RX5 "ticketCount" "I") (by decide +kernel)) dX5_firstOfBoardingList_6 ?_
    refine lv_icmp_ge (tgt := 60) hx hb dX5_firstOfBoardingList_9 (by decide) (fun hc => ?_) (fun hc => ?_)
    · replace hF := it_t hF hc
      exact hE y2 _ _ _ hy2 hF hW hS (lv_sub hl [2] rfl)
    · replace hF := it_f hF hc
      refine lv_aload_n hx hb dX5_firstOfBoardingList_12 rfl (lv_at hl 0 rfl) ?_
      refine g5_6 hx hb hts hi5_firstOfBoardingList_5 hown hK hW (hts (.fieldLink RX5 29 RX5 "tickets" "[LFerryTerminal$Ticket;") (by decide +kernel)) dX5_firstOfBoardingList_13 ?_
      refine lv_iload_n hx hb dX5_firstOfBoardingList_16 rfl (lv_at hl 3 rfl) ?_
      replace hF := ob hF
      obtain ⟨j1, ej1, hF⟩ := hF
      replace hF := lt_ex hF
      obtain ⟨r2, er2, hF⟩ := hF
      have hr2 : ∀ y, r2 = some y → y < N 4 := hW.v er2
      refine l10 hx hb hK hW ej1 er2 dX5_firstOfBoardingList_17 ?_
      refine q_astore (lv' := [(4, va_rf (r2.map (ad 4))), (0, .ref (ad 5 0)), (1, .ref (ad 2 c1)), (2, va_rf (y2.map (ad 4))), (3, .int y3)]) hx hb dX5_firstOfBoardingList_18 hl (by decide) rfl ?_
      clear hl; intro ls hl
      refine q_aload hx hb dX5_firstOfBoardingList_20 (lv_at hl 0 rfl) ?_
      replace hF := ob hF
      obtain ⟨t3, et3, hF⟩ := hF
      subst et3
      have ht3 := hr2 t3 rfl
      replace hl : lv_has ls 5 [(4, .ref (ad 4 t3)), (0, .ref (ad 5 0)), (1, .ref (ad 2 c1)), (2, va_rf (y2.map (ad 4))), (3, .int y3)] := hl
      replace hF := lt_ex hF
      obtain ⟨r4, er4, hF⟩ := hF
      have hr4 : ∀ y, r4 = some y → y < N 2 := hW.v er4
      refine gn4_1 hx hb hts hi5_firstOfBoardingList_4 hown hK hW ht3 er4 (nf_22 hN) dX5_firstOfBoardingList_22 ?_
      refine lv_aload_n hx hb dX5_firstOfBoardingList_25 rfl (lv_at hl 2 rfl) ?_
      refine q_acmp_ne hx hb hW 2 r4 (some c1) hr4 (q_some hc1) (tgt := 54) dX5_firstOfBoardingList_26 (by decide) (fun hc => ?_) (fun hc => ?_)
      · replace hF := it_f hF hc
        refine lv_iinc (v := y3 + 1) (lv' := [(3, .int (y3 + 1)), (4, .ref (ad 4 t3)), (0, .ref (ad 5 0)), (1, .ref (ad 2 c1)), (2, va_rf (y2.map (ad 4)))]) hx hb dX5_firstOfBoardingList_54 hl (k := 4) rfl rfl (by decide) (by cases y2 <;> rfl) ?_
        clear hl; intro ls hl
        refine lv_goto (tgt := 4) hx hb dX5_firstOfBoardingList_57 (by decide) ?_
        exact ih y2 (y3 + 1) _ _ _ hy2 hF hW hS (lv_sub hl [2, 3, 4, 0] rfl)
      · replace hF := it_t hF hc
        refine lv_aload hx hb dX5_firstOfBoardingList_29 (lv_at hl 0 rfl) ?_
        refine gn4_6 hx hb hts hi5_firstOfBoardingList_4 hown hK hW ht3 (nf_28 hN) dX5_firstOfBoardingList_31 ?_
        refine lv_iconst (v := (2 : Int32)) hx hb dX5_firstOfBoardingList_34 (by decide) ?_
        refine lv_icmp_ne (tgt := 54) hx hb dX5_firstOfBoardingList_35 (by decide) (fun hc => ?_) (fun hc => ?_)
        · replace hF := it_f hF hc
          refine lv_iinc (v := y3 + 1) (lv' := [(3, .int (y3 + 1)), (4, .ref (ad 4 t3)), (0, .ref (ad 5 0)), (1, .ref (ad 2 c1)), (2, va_rf (y2.map (ad 4)))]) hx hb dX5_firstOfBoardingList_54 hl (k := 4) rfl rfl (by decide) (by cases y2 <;> rfl) ?_
          clear hl; intro ls hl
          refine lv_goto (tgt := 4) hx hb dX5_firstOfBoardingList_57 (by decide) ?_
          exact ih y2 (y3 + 1) _ _ _ hy2 hF hW hS (lv_sub hl [2, 3, 4, 0] rfl)
        · replace hF := it_t hF hc
          refine q_aload_n hx hb dX5_firstOfBoardingList_38 rfl (lv_at hl 3 rfl) ?_
          refine q_ifnull (tgt := 51) hx hb dX5_firstOfBoardingList_39 (by decide) (fun hc => ?_) (fun t5 hc => ?_)
          · subst hc
            replace hF := el_n hF
            replace hl : lv_has ls 5 [(4, .ref (ad 4 t3)), (0, .ref (ad 5 0)), (1, .ref (ad 2 c1)), (2, .null), (3, .int y3)] := hl
            refine lv_aload hx hb dX5_firstOfBoardingList_51 (lv_at hl 0 rfl) ?_
            refine lv_astore_n (lv' := [(2, .ref (ad 4 t3)), (4, .ref (ad 4 t3)), (0, .ref (ad 5 0)), (1, .ref (ad 2 c1)), (3, .int y3)]) hx hb dX5_firstOfBoardingList_53 rfl hl (by decide) rfl ?_
            clear hl; intro ls hl
            refine lv_iinc (v := y3 + 1) (lv' := [(3, .int (y3 + 1)), (2, .ref (ad 4 t3)), (4, .ref (ad 4 t3)), (0, .ref (ad 5 0)), (1, .ref (ad 2 c1))]) hx hb dX5_firstOfBoardingList_54 hl (k := 4) rfl rfl (by decide) rfl ?_
            clear hl; intro ls hl
            refine lv_goto (tgt := 4) hx hb dX5_firstOfBoardingList_57 (by decide) ?_
            exact ih (some t3) (y3 + 1) _ _ _ (q_some ht3) hF hW hS (lv_sub hl [3, 4, 1, 0] rfl)
          · subst hc
            replace hF := el_s hF
            have ht5 := hy2 t5 rfl
            replace hl : lv_has ls 5 [(4, .ref (ad 4 t3)), (0, .ref (ad 5 0)), (1, .ref (ad 2 c1)), (2, .ref (ad 4 t5)), (3, .int y3)] := hl
            refine lv_aload hx hb dX5_firstOfBoardingList_42 (lv_at hl 0 rfl) ?_
            refine lv_aload_n hx hb dX5_firstOfBoardingList_44 rfl (lv_at hl 3 rfl) ?_
            replace hF := ob hF
            obtain ⟨v6, q7, hF⟩ := hF
            refine k_i (va_runVN (C := RX4) (As := [.ref (ad 4 t5)]) (rest := []) ⟨hx, hb, hml, hown, hts⟩ (c4_boardsAheadOf l t3 t5 ht3 ht5 q7) ⟨va_cnB 1 hts gX5_firstOfBoardingList_X4_boardsAheadOf_n187 rfl rfl rfl (nm_7 hN) (hts (.initialized RX4) (by decide +kernel)) (by decide +kernel) ⟨Nat.le_of_ble_eq_true rfl, Nat.le_of_ble_eq_true rfl⟩, hts (.instanceMethod yX4_boardsAheadOf) (by decide +kernel), hts (.selects RX4 yX4_boardsAheadOf yX4_boardsAheadOf) (by decide +kernel)⟩ (k_preV hW hK hN ht3 (EE_4 cA ad S P M t3) rfl) rfl rfl hl.1 rfl (lv_room (Nat.le_of_ble_eq_true rfl)) dX5_firstOfBoardingList_45 ⟨Nat.le_of_ble_eq_true rfl, Nat.le_of_ble_eq_true rfl⟩) hS ?_
            clear hW hS; intro H locs hW hS
            refine lv_if_eq (tgt := 54) hx hb dX5_firstOfBoardingList_48 (by decide) (fun hc => ?_) (fun hc => ?_)
            · replace hF := it_t hF hc
              refine lv_iinc (v := y3 + 1) (lv' := [(3, .int (y3 + 1)), (4, .ref (ad 4 t3)), (0, .ref (ad 5 0)), (1, .ref (ad 2 c1)), (2, .ref (ad 4 t5))]) hx hb dX5_firstOfBoardingList_54 hl (k := 4) rfl rfl (by decide) rfl ?_
              clear hl; intro ls hl
              refine lv_goto (tgt := 4) hx hb dX5_firstOfBoardingList_57 (by decide) ?_
              exact ih (some t5) (y3 + 1) _ _ _ (q_some ht5) hF hW hS (lv_sub hl [2, 3, 4, 0] rfl)
            · replace hF := it_f hF hc
              refine lv_aload hx hb dX5_firstOfBoardingList_51 (lv_at hl 0 rfl) ?_
              refine lv_astore_n (lv' := [(2, .ref (ad 4 t3)), (4, .ref (ad 4 t3)), (0, .ref (ad 5 0)), (1, .ref (ad 2 c1)), (3, .int y3)]) hx hb dX5_firstOfBoardingList_53 rfl hl (by decide) rfl ?_
              clear hl; intro ls hl
              refine lv_iinc (v := y3 + 1) (lv' := [(3, .int (y3 + 1)), (2, .ref (ad 4 t3)), (4, .ref (ad 4 t3)), (0, .ref (ad 5 0)), (1, .ref (ad 2 c1))]) hx hb dX5_firstOfBoardingList_54 hl (k := 4) rfl rfl (by decide) rfl ?_
              clear hl; intro ls hl
              refine lv_goto (tgt := 4) hx hb dX5_firstOfBoardingList_57 (by decide) ?_
              exact ih (some t3) (y3 + 1) _ _ _ (q_some ht3) hF hW hS (lv_sub hl [3, 4, 1, 0] rfl)

set_option maxHeartbeats 4000000 in
set_option maxRecDepth 100000 in
theorem w5_firstOfBoardingList {p : Program} {l : Launch} {e : Env} {s : State} {m : MethodId} {args : Array Value} {below : List Frame} {meth : Method} {c : Code} (C : MC p s m args meth c cX5_firstOfBoardingList (some (.object "FerryTerminal$Ticket")) 5 RX5 wsX5_firstOfBoardingList) {D : va_G} {cA : Nat → ClassId} {z : Nat} {ad : Nat → Nat → Nat} {N : TN} (hK : va_K D vwCl (tysW cA) s) (hN : NW s) {S : TS} {P : TP} {M : TS} (a1 : Nat) (ha1 : a1 < N 2) {v : Option Nat} (hF : f5_firstOfBoardingList S P a1 = some v)
    {H : Heap} {ls : Array Slot} (hW : Wd D cA z ad N S P M H) {locs : List Loc} (hS : va_S (fun q => z ≤ q) s.heap H locs) (hl : lv_has ls 5 [(0, .ref (ad 5 0)), (1, .ref (ad 2 a1))]) : W p l e rm5_firstOfBoardingList s m args below meth c H locs 0 0 (MQ below (Qq D cA z 4 v (ad, N, S, P, M)) args s 0 0 (fun q => z ≤ q)) (F0 m 0 ls []) := by
  obtain ⟨hx, hb, hr, hml, hown, hts, hlk⟩ := id C
  unfold f5_firstOfBoardingList at hF
  refine lv_null hx hb dX5_firstOfBoardingList_0 ?_
  refine q_astore_n (lv' := [(2, .null), (0, .ref (ad 5 0)), (1, .ref (ad 2 a1))]) (r := none) hx hb dX5_firstOfBoardingList_1 rfl hl (by decide) rfl ?_
  clear hl; intro ls hl
  refine lv_iconst (v := (0 : Int32)) hx hb dX5_firstOfBoardingList_2 (by decide) ?_
  refine lv_istore_n (lv' := [(3, .int (0 : Int32)), (2, .null), (0, .ref (ad 5 0)), (1, .ref (ad 2 a1))]) hx hb dX5_firstOfBoardingList_3 rfl hl (by decide) rfl ?_
  clear hl; intro ls hl
  refine w5_firstOfBoardingList_4 C hK hN a1 ha1 (hE := ?_) FU none (0 : Int32) _ _ _ q_none hF hW hS (lv_sub hl [2, 3, 1, 0] rfl)
  intro w8 H locs ls hw8 hF hW hS hl
  refine q_aload_n hx hb dX5_firstOfBoardingList_60 rfl (lv_at hl 0 rfl) ?_
  have hq1 := Option.some.inj hF
  subst hq1
  exact e_q (v := w8) hx hb hr hlk hK hN hW hS hw8 dX5_firstOfBoardingList_61

set_option maxHeartbeats 4000000 in
set_option maxRecDepth 100000 in
theorem c5_firstOfBoardingList (l : Launch) {D : va_G} {cA : Nat → ClassId} {z : Nat} {ad : Nat → Nat → Nat} {N : TN} {S : TS} {P : TP} {M : TS} (a1 : Nat) (ha1 : a1 < N 2) {v : Option Nat} (hF : f5_firstOfBoardingList S P a1 = some v) : Met l yX5_firstOfBoardingList wsX5_firstOfBoardingList rm5_firstOfBoardingList (va_Pc [.ref (ad 5 0), .ref (ad 2 a1)] (Wl D cA z (ad, N, S, P, M))) (Qq D cA z 4 v (ad, N, S, P, M)) 0 0 (fun q => z ≤ q) := by
  refine Met.ofW (cc := cX5_firstOfBoardingList) (maxL := 5) (ret := (some (.object "FerryTerminal$Ticket"))) (by decide) rfl ?_
  intro p e s m args below meth c s₁ B hml hv
  obtain ⟨rfl, hW, hK, hN⟩ := hv
  have hl := lv_entry ([.ref (ad 5 0), .ref (ad 2 a1)]) (n := 5) (Nat.le_of_ble_eq_true rfl)
  rw [lg_entry_eq]
  generalize (lg_sl ([.ref (ad 5 0), .ref (ad 2 a1)]) ++ List.replicate (5 - (lg_sl ([.ref (ad 5 0), .ref (ad 2 a1)])).length) Slot.unset).toArray = ls at hl ⊢
  exact w5_firstOfBoardingList ⟨B.exec, B.bytes, B.returns, hml, findClass_of_methodNamed B.named, atoms_spec (ws := wsX5_firstOfBoardingList) B.pre, B.notSynchronized⟩ hK hN a1 ha1 hF hW va_S.rf hl

-- 5 doRampTurn
abbrev rm5_doRampTurn : Room := { frames := 5, cells := 0, slots := 0, locals := 119 }
def f5_doRampTurn (S : TS) (P : TP) (a1 : Nat) (a2 : Nat) : Option (TS × TP) :=
  lt (P 201 a1 0) fun (r1 : Option Nat) =>
  r1.bind fun (t2 : Nat) =>
  b3 (f3_placeByDeckRule S P t2 a2) fun (v3 : Int32) (S4 : TS) (P5 : TP) =>
  if v3 = 0 then
  (lt (up S4 406 a2 (4 : Int32)) fun (S16 : TS) =>
  b2 (f5_writeLog S16 P5 (2 : Int32) a2 a1) fun (S17 : TS) (P18 : TP) =>
  some (S17, P18))
  else
  (lt (up S4 406 a2 (3 : Int32)) fun (S7 : TS) =>
  lt (up S7 414 a2 (S7 511 0)) fun (S8 : TS) =>
  lt (up3 P5 207 a1 0 (some a2)) fun (P9 : TP) =>
  lt (if (S8 404 a2) ≤ 0 then (0 : Int32) else (1 : Int32)) fun (x10 : Int32) =>
  if x10 = 0 ∨ x10 = 1 then
  (lt (up S8 208 a1 x10) fun (S12 : TS) =>
  b2 (f5_writeLog S12 P9 (1 : Int32) a2 a1) fun (S13 : TS) (P14 : TP) =>
  some (S13, P14))
  else none)
set_option maxRecDepth 20000 in
theorem hi5_doRampTurn_2 : ∀ w ∈ u_ws RX2 TX2 9, w ∈ wsX5_doRampTurn := by decide +kernel
set_option maxRecDepth 20000 in
theorem hi5_doRampTurn_4 : ∀ w ∈ u_ws RX4 TX4 16, w ∈ wsX5_doRampTurn := by decide +kernel
set_option maxRecDepth 20000 in
theorem hi5_doRampTurn_5 : ∀ w ∈ u_ws RX5 TX5 12, w ∈ wsX5_doRampTurn := by decide +kernel
set_option maxHeartbeats 4000000 in
set_option maxRecDepth 100000 in
theorem w5_doRampTurn {p : Program} {l : Launch} {e : Env} {s : State} {m : MethodId} {args : Array Value} {below : List Frame} {meth : Method} {c : Code} (C : MC p s m args meth c cX5_doRampTurn none 3 RX5 wsX5_doRampTurn) {D : va_G} {cA : Nat → ClassId} {z : Nat} {ad : Nat → Nat → Nat} {N : TN} (hK : va_K D vwCl (tysW cA) s) (hN : NW s) {S : TS} {P : TP} {M : TS} (a1 : Nat) (a2 : Nat) (ha1 : a1 < N 2) (ha2 : a2 < N 4) {S' : TS} {P' : TP} (hF : f5_doRampTurn S P a1 a2 = some (S', P'))
    {H : Heap} {ls : Array Slot} (hW : Wd D cA z ad N S P M H) {locs : List Loc} (hS : va_S (fun q => z ≤ q) s.heap H locs) (hl : lv_has ls 3 [(0, .ref (ad 5 0)), (1, .ref (ad 2 a1)), (2, .ref (ad 4 a2))]) : W p l e rm5_doRampTurn s m args below meth c H locs 0 0 (MQ below (Qv D cA z (ad, N, S', P', M)) args s 0 0 (fun q => z ≤ q)) (F0 m 0 ls []) := by
  obtain ⟨hx, hb, hr, hml, hown, hts, hlk⟩ := id C
  unfold f5_doRampTurn at hF
  refine lv_aload_n hx hb dX5_doRampTurn_0 rfl (lv_at hl 1 rfl) ?_
  replace hF := lt_ex hF
  obtain ⟨r1, er1, hF⟩ := hF
  have hr1 : ∀ y, r1 = some y → y < N 3 := hW.v er1
  refine gn2_1 hx hb hts hi5_doRampTurn_2 hown hK hW ha1 er1 (nf_12 hN) dX5_doRampTurn_1 ?_
  refine lv_aload_n hx hb dX5_doRampTurn_4 rfl (lv_at hl 2 rfl) ?_
  replace hF := ob hF
  obtain ⟨t2, et2, hF⟩ := hF
  subst et2
  have ht2 := hr1 t2 rfl
  replace hF := ob3 hF
  obtain ⟨v3, S4, P5, q6, hF⟩ := hF
  refine k_i (va_runVN (C := RX3) (As := [.ref (ad 4 a2)]) (rest := []) ⟨hx, hb, hml, hown, hts⟩ (c3_placeByDeckRule l t2 a2 ht2 ha2 q6) ⟨va_cnB 1 hts gX5_doRampTurn_X3_placeByDeckRule_n191 rfl rfl rfl (nm_8 hN) (hts (.initialized RX3) (by decide +kernel)) (by decide +kernel) ⟨Nat.le_of_ble_eq_true rfl, Nat.le_of_ble_eq_true rfl⟩, hts (.instanceMethod yX3_placeByDeckRule) (by decide +kernel), hts (.selects RX3 yX3_placeByDeckRule yX3_placeByDeckRule) (by decide +kernel)⟩ (k_preV hW hK hN ht2 (EE_3 cA ad S P M t2) rfl) rfl rfl hl.1 rfl (lv_room (Nat.le_of_ble_eq_true rfl)) dX5_doRampTurn_5 ⟨Nat.le_of_ble_eq_true rfl, Nat.le_of_ble_eq_true rfl⟩) hS ?_
  clear hW hS; intro H locs hW hS
  refine lv_if_ne (tgt := 24) hx hb dX5_doRampTurn_8 (by decide) (fun hc => ?_) (fun hc => ?_)
  · replace hF := it_f hF hc
    refine lv_aload_n hx hb dX5_doRampTurn_24 rfl (lv_at hl 2 rfl) ?_
    refine lv_iconst (v := (3 : Int32)) hx hb dX5_doRampTurn_25 (by decide) ?_
    replace hF := lt_ex hF
    obtain ⟨S7, eS7, hF⟩ := hF
    refine pn4_6 hx hb hts hi5_doRampTurn_4 hown hK hW hS ha2 eS7 (nf_28 hN) dX5_doRampTurn_26 ?_
    clear hW hS; intro H locs hW hS
    refine lv_aload_n hx hb dX5_doRampTurn_29 rfl (lv_at hl 2 rfl) ?_
    refine lv_aload_n hx hb dX5_doRampTurn_30 rfl (lv_at hl 0 rfl) ?_
    refine g5_11 hx hb hts hi5_doRampTurn_5 hown hK hW (hts (.fieldLink RX5 159 RX5 "turnsEver" "I") (by decide +kernel)) dX5_doRampTurn_31 ?_
    replace hF := lt_ex hF
    obtain ⟨S8, eS8, hF⟩ := hF
    refine pn4_14 hx hb hts hi5_doRampTurn_4 hown hK hW hS ha2 eS8 (nf_37 hN) dX5_doRampTurn_34 ?_
    clear hW hS; intro H locs hW hS
    refine lv_aload_n hx hb dX5_doRampTurn_37 rfl (lv_at hl 1 rfl) ?_
    refine lv_aload_n hx hb dX5_doRampTurn_38 rfl (lv_at hl 2 rfl) ?_
    replace hF := lt_ex hF
    obtain ⟨P9, eP9, hF⟩ := hF
    refine pn2_7 (r := (some a2)) hx hb hts hi5_doRampTurn_2 hown hK hW hS ha1 (q_some ha2) eP9 (nf_19 hN) dX5_doRampTurn_39 ?_
    clear hW hS; intro H locs hW hS
    refine lv_aload_n hx hb dX5_doRampTurn_42 rfl (lv_at hl 1 rfl) ?_
    refine lv_aload_n hx hb dX5_doRampTurn_43 rfl (lv_at hl 2 rfl) ?_
    refine gn4_4 hx hb hts hi5_doRampTurn_4 hown hK hW ha2 (nf_26 hN) dX5_doRampTurn_44 ?_
    replace hF := lt_ex hF
    obtain ⟨x10, ex10, hF⟩ := hF
    have hJ : W p l e rm5_doRampTurn s m args below meth c H locs 0 0 (MQ below (Qv D cA z (ad, N, S', P', M)) args s 0 0 (fun q => z ≤ q)) (F0 m 55 ls [.int x10, .ref (ad 2 a1)]) := by
      replace hF := it_ok hF
      obtain ⟨hz11, hF⟩ := hF
      replace hF := lt_ex hF
      obtain ⟨S12, eS12, hF⟩ := hF
      refine pn2_8 hx hb hts hi5_doRampTurn_2 hown hK hW hS ha1 hz11 eS12 (nf_20 hN) dX5_doRampTurn_55 ?_
      clear hW hS; intro H locs hW hS
      refine lv_aload_n hx hb dX5_doRampTurn_58 rfl (lv_at hl 0 rfl) ?_
      refine lv_iconst (v := (1 : Int32)) hx hb dX5_doRampTurn_59 (by decide) ?_
      refine lv_aload_n hx hb dX5_doRampTurn_60 rfl (lv_at hl 2 rfl) ?_
      refine lv_aload_n hx hb dX5_doRampTurn_61 rfl (lv_at hl 1 rfl) ?_
      replace hF := ob2 hF
      obtain ⟨S13, P14, q15, hF⟩ := hF
      refine k_v (va_runV (As := [.int (1 : Int32), .ref (ad 4 a2), .ref (ad 2 a1)]) (rest := []) ⟨hx, hb, hml, hown, hts⟩ (c5_writeLog l (1 : Int32) a2 a1 ha2 ha1 q15) (cwV 3 hts gX5_doRampTurn_X5_writeLog rfl rfl rfl (by decide +kernel) ⟨Nat.le_of_ble_eq_true rfl, Nat.le_of_ble_eq_true rfl⟩) (k_preV hW hK hN (hW.fx 5 rfl) (EE_5 cA ad S12 P9 M 0) rfl) rfl rfl hl.1 rfl (lv_room (Nat.le_of_ble_eq_true rfl)) dX5_doRampTurn_62 ⟨Nat.le_of_ble_eq_true rfl, Nat.le_of_ble_eq_true rfl⟩) hS ?_
      clear hW hS; intro H locs hW hS
      obtain ⟨hq1, hq2⟩ := Prod.mk.inj (Option.some.inj hF)
      subst hq1
      subst hq2
      exact e_v hx hb hr hlk hK hN hW hS dX5_doRampTurn_65
    refine lv_if_le (tgt := 54) hx hb dX5_doRampTurn_47 (by decide) (fun hc => ?_) (fun hc => ?_)
    · refine lv_iconst (v := (0 : Int32)) hx hb dX5_doRampTurn_54 (by decide) ?_
      exact W.eq (by rw [ex10, if_pos hc]) hJ
    · refine lv_iconst (v := (1 : Int32)) hx hb dX5_doRampTurn_50 (by decide) ?_
      refine lv_goto (tgt := 55) hx hb dX5_doRampTurn_51 (by decide) ?_
      exact W.eq (by rw [ex10, if_neg hc]) hJ
  · replace hF := it_t hF hc
    refine lv_aload_n hx hb dX5_doRampTurn_11 rfl (lv_at hl 2 rfl) ?_
    refine lv_iconst (v := (4 : Int32)) hx hb dX5_doRampTurn_12 (by decide) ?_
    replace hF := lt_ex hF
    obtain ⟨S16, eS16, hF⟩ := hF
    refine pn4_6 hx hb hts hi5_doRampTurn_4 hown hK hW hS ha2 eS16 (nf_28 hN) dX5_doRampTurn_13 ?_
    clear hW hS; intro H locs hW hS
    refine lv_aload_n hx hb dX5_doRampTurn_16 rfl (lv_at hl 0 rfl) ?_
    refine lv_iconst (v := (2 : Int32)) hx hb dX5_doRampTurn_17 (by decide) ?_
    refine lv_aload_n hx hb dX5_doRampTurn_18 rfl (lv_at hl 2 rfl) ?_
    refine lv_aload_n hx hb dX5_doRampTurn_19 rfl (lv_at hl 1 rfl) ?_
    replace hF := ob2 hF
    obtain ⟨S17, P18, q19, hF⟩ := hF
    refine k_v (va_runV (As := [.int (2 : Int32), .ref (ad 4 a2), .ref (ad 2 a1)]) (rest := []) ⟨hx, hb, hml, hown, hts⟩ (c5_writeLog l (2 : Int32) a2 a1 ha2 ha1 q19) (cwV 3 hts gX5_doRampTurn_X5_writeLog rfl rfl rfl (by decide +kernel) ⟨Nat.le_of_ble_eq_true rfl, Nat.le_of_ble_eq_true rfl⟩) (k_preV hW hK hN (hW.fx 5 rfl) (EE_5 cA ad S16 P5 M 0) rfl) rfl rfl hl.1 rfl (lv_room (Nat.le_of_ble_eq_true rfl)) dX5_doRampTurn_20 ⟨Nat.le_of_ble_eq_true rfl, Nat.le_of_ble_eq_true rfl⟩) hS ?_
    clear hW hS; intro H locs hW hS
    obtain ⟨hq1, hq2⟩ := Prod.mk.inj (Option.some.inj hF)
    subst hq1
    subst hq2
    exact e_v hx hb hr hlk hK hN hW hS dX5_doRampTurn_23

set_option maxHeartbeats 4000000 in
set_option maxRecDepth 100000 in
theorem c5_doRampTurn (l : Launch) {D : va_G} {cA : Nat → ClassId} {z : Nat} {ad : Nat → Nat → Nat} {N : TN} {S : TS} {P : TP} {M : TS} (a1 : Nat) (a2 : Nat) (ha1 : a1 < N 2) (ha2 : a2 < N 4) {S' : TS} {P' : TP} (hF : f5_doRampTurn S P a1 a2 = some (S', P')) : Met l yX5_doRampTurn wsX5_doRampTurn rm5_doRampTurn (va_Pc [.ref (ad 5 0), .ref (ad 2 a1), .ref (ad 4 a2)] (Wl D cA z (ad, N, S, P, M))) (Qv D cA z (ad, N, S', P', M)) 0 0 (fun q => z ≤ q) := by
  refine Met.ofW (cc := cX5_doRampTurn) (maxL := 3) (ret := none) (by decide) rfl ?_
  intro p e s m args below meth c s₁ B hml hv
  obtain ⟨rfl, hW, hK, hN⟩ := hv
  have hl := lv_entry ([.ref (ad 5 0), .ref (ad 2 a1), .ref (ad 4 a2)]) (n := 3) (Nat.le_of_ble_eq_true rfl)
  rw [lg_entry_eq]
  generalize (lg_sl ([.ref (ad 5 0), .ref (ad 2 a1), .ref (ad 4 a2)]) ++ List.replicate (3 - (lg_sl ([.ref (ad 5 0), .ref (ad 2 a1), .ref (ad 4 a2)])).length) Slot.unset).toArray = ls at hl ⊢
  exact w5_doRampTurn ⟨B.exec, B.bytes, B.returns, hml, findClass_of_methodNamed B.named, atoms_spec (ws := wsX5_doRampTurn) B.pre, B.notSynchronized⟩ hK hN a1 a2 ha1 ha2 hF hW va_S.rf hl

