-- 6 isTicket
abbrev rm6_isTicket : Room := { frames := 0, cells := 0, slots := 0, locals := 0 }
def f6_isTicket (M : TS) (a1 : Int32) : Option (Int32) :=
  if a1 < 0 then
  (some (0 : Int32))
  else
  (if (M 623 0) ≤ a1 then
  (some (0 : Int32))
  else
  (some (1 : Int32)))
set_option maxRecDepth 20000 in
theorem hi6_isTicket_6 : ∀ w ∈ u_ws RX6 TX6 31, w ∈ wsX6_isTicket := by decide +kernel
set_option maxHeartbeats 4000000 in
set_option maxRecDepth 100000 in
theorem w6_isTicket {p : Program} {l : Launch} {e : Env} {s : State} {m : MethodId} {args : Array Value} {below : List Frame} {meth : Method} {c : Code} (C : MC p s m args meth c cX6_isTicket (some .boolean) 2 RX6 wsX6_isTicket) {D : va_G} {cA : Nat → ClassId} {z : Nat} {ad : Nat → Nat → Nat} {N : TN} (hK : va_K D vwCl (tysW cA) s) (hN : NW s) {S : TS} {P : TP} {M : TS} (a1 : Int32) {v : Int32} (hF : f6_isTicket M a1 = some v)
    {H : Heap} {ls : Array Slot} (hW : Wd D cA z ad N S P M H) {locs : List Loc} (hS : va_S (fun q => z ≤ q) s.heap H locs) (hl : lv_has ls 2 [(0, .ref (ad 6 0)), (1, .int a1)]) : W p l e rm6_isTicket s m args below meth c H locs 0 0 (MQ below (Qi D cA z v (ad, N, S, P, M)) args s 0 0 (fun q => z ≤ q)) (F0 m 0 ls []) := by
  obtain ⟨hx, hb, hr, hml, hown, hts, hlk⟩ := id C
  unfold f6_isTicket at hF
  refine lv_iload_n hx hb dX6_isTicket_0 rfl (lv_at hl 1 rfl) ?_
  refine lv_if_lt (tgt := 16) hx hb dX6_isTicket_1 (by decide) (fun hc => ?_) (fun hc => ?_)
  · replace hF := it_t hF hc
    refine lv_iconst (v := (0 : Int32)) hx hb dX6_isTicket_16 (by decide) ?_
    have hq1 := Option.some.inj hF
    subst hq1
    exact e_z hx hb hr hlk hK hN hW hS (by decide) dX6_isTicket_17
  · replace hF := it_f hF hc
    refine lv_iload_n hx hb dX6_isTicket_4 rfl (lv_at hl 1 rfl) ?_
    refine lv_aload_n hx hb dX6_isTicket_5 rfl (lv_at hl 0 rfl) ?_
    refine g6_23 hx hb hts hi6_isTicket_6 hown hK hW (hts (.fieldLink RX6 74 RX6 "tickets" "I") (by decide +kernel)) dX6_isTicket_6 ?_
    refine lv_icmp_ge (tgt := 16) hx hb dX6_isTicket_9 (by decide) (fun hc => ?_) (fun hc => ?_)
    · replace hF := it_t hF hc
      refine lv_iconst (v := (0 : Int32)) hx hb dX6_isTicket_16 (by decide) ?_
      have hq1 := Option.some.inj hF
      subst hq1
      exact e_z hx hb hr hlk hK hN hW hS (by decide) dX6_isTicket_17
    · replace hF := it_f hF hc
      refine lv_iconst (v := (1 : Int32)) hx hb dX6_isTicket_12 (by decide) ?_
      refine lv_goto (tgt := 17) hx hb dX6_isTicket_13 (by decide) ?_
      have hq1 := Option.some.inj hF
      subst hq1
      exact e_z hx hb hr hlk hK hN hW hS (by decide) dX6_isTicket_17

set_option maxHeartbeats 4000000 in
set_option maxRecDepth 100000 in
theorem c6_isTicket (l : Launch) {D : va_G} {cA : Nat → ClassId} {z : Nat} {ad : Nat → Nat → Nat} {N : TN} {S : TS} {P : TP} {M : TS} (a1 : Int32) {v : Int32} (hF : f6_isTicket M a1 = some v) : Met l yX6_isTicket wsX6_isTicket rm6_isTicket (va_Pc [.ref (ad 6 0), .int a1] (Wl D cA z (ad, N, S, P, M))) (Qi D cA z v (ad, N, S, P, M)) 0 0 (fun q => z ≤ q) := by
  refine Met.ofW (cc := cX6_isTicket) (maxL := 2) (ret := (some .boolean)) (by decide) rfl ?_
  intro p e s m args below meth c s₁ B hml hv
  obtain ⟨rfl, hW, hK, hN⟩ := hv
  have hl := lv_entry ([.ref (ad 6 0), .int a1]) (n := 2) (Nat.le_of_ble_eq_true rfl)
  rw [lg_entry_eq]
  generalize (lg_sl ([.ref (ad 6 0), .int a1]) ++ List.replicate (2 - (lg_sl ([.ref (ad 6 0), .int a1])).length) Slot.unset).toArray = ls at hl ⊢
  exact w6_isTicket ⟨B.exec, B.bytes, B.returns, hml, findClass_of_methodNamed B.named, atoms_spec (ws := wsX6_isTicket) B.pre, B.notSynchronized⟩ hK hN a1 hF hW va_S.rf hl

-- 6 isToGo
abbrev rm6_isToGo : Room := { frames := 0, cells := 0, slots := 0, locals := 0 }
def f6_isToGo (M : TS) (a1 : Int32) : Option (Int32) :=
  (ix a1 60).bind fun (j1 : Nat) =>
  if (M 2900 j1) = 0 then
  (some (1 : Int32))
  else
  ((ix a1 60).bind fun (j2 : Nat) =>
  if (M 2900 j2) = (1 : Int32) then
  (some (1 : Int32))
  else
  (some (0 : Int32)))
set_option maxRecDepth 20000 in
theorem hi6_isToGo_6 : ∀ w ∈ u_ws RX6 TX6 31, w ∈ wsX6_isToGo := by decide +kernel
set_option maxHeartbeats 4000000 in
set_option maxRecDepth 100000 in
theorem w6_isToGo {p : Program} {l : Launch} {e : Env} {s : State} {m : MethodId} {args : Array Value} {below : List Frame} {meth : Method} {c : Code} (C : MC p s m args meth c cX6_isToGo (some .boolean) 2 RX6 wsX6_isToGo) {D : va_G} {cA : Nat → ClassId} {z : Nat} {ad : Nat → Nat → Nat} {N : TN} (hK : va_K D vwCl (tysW cA) s) (hN : NW s) {S : TS} {P : TP} {M : TS} (a1 : Int32) {v : Int32} (hF : f6_isToGo M a1 = some v)
    {H : Heap} {ls : Array Slot} (hW : Wd D cA z ad N S P M H) {locs : List Loc} (hS : va_S (fun q => z ≤ q) s.heap H locs) (hl : lv_has ls 2 [(0, .ref (ad 6 0)), (1, .int a1)]) : W p l e rm6_isToGo s m args below meth c H locs 0 0 (MQ below (Qi D cA z v (ad, N, S, P, M)) args s 0 0 (fun q => z ≤ q)) (F0 m 0 ls []) := by
  obtain ⟨hx, hb, hr, hml, hown, hts, hlk⟩ := id C
  unfold f6_isToGo at hF
  refine lv_aload_n hx hb dX6_isToGo_0 rfl (lv_at hl 0 rfl) ?_
  refine g6_9 hx hb hts hi6_isToGo_6 hown hK hW (hts (.fieldLink RX6 38 RX6 "how" "[I") (by decide +kernel)) dX6_isToGo_1 ?_
  refine lv_iload_n hx hb dX6_isToGo_4 rfl (lv_at hl 1 rfl) ?_
  replace hF := ob hF
  obtain ⟨j1, ej1, hF⟩ := hF
  refine l29 hx hb hK hW ej1 dX6_isToGo_5 ?_
  refine lv_if_eq (tgt := 19) hx hb dX6_isToGo_6 (by decide) (fun hc => ?_) (fun hc => ?_)
  · replace hF := it_t hF hc
    refine lv_iconst (v := (1 : Int32)) hx hb dX6_isToGo_19 (by decide) ?_
    refine lv_goto (tgt := 24) hx hb dX6_isToGo_20 (by decide) ?_
    have hq1 := Option.some.inj hF
    subst hq1
    exact e_z hx hb hr hlk hK hN hW hS (by decide) dX6_isToGo_24
  · replace hF := it_f hF hc
    refine lv_aload_n hx hb dX6_isToGo_9 rfl (lv_at hl 0 rfl) ?_
    refine g6_9 hx hb hts hi6_isToGo_6 hown hK hW (hts (.fieldLink RX6 38 RX6 "how" "[I") (by decide +kernel)) dX6_isToGo_10 ?_
    refine lv_iload_n hx hb dX6_isToGo_13 rfl (lv_at hl 1 rfl) ?_
    replace hF := ob hF
    obtain ⟨j2, ej2, hF⟩ := hF
    refine l29 hx hb hK hW ej2 dX6_isToGo_14 ?_
    refine lv_iconst (v := (1 : Int32)) hx hb dX6_isToGo_15 (by decide) ?_
    refine lv_icmp_ne (tgt := 23) hx hb dX6_isToGo_16 (by decide) (fun hc => ?_) (fun hc => ?_)
    · replace hF := it_f hF hc
      refine lv_iconst (v := (0 : Int32)) hx hb dX6_isToGo_23 (by decide) ?_
      have hq1 := Option.some.inj hF
      subst hq1
      exact e_z hx hb hr hlk hK hN hW hS (by decide) dX6_isToGo_24
    · replace hF := it_t hF hc
      refine lv_iconst (v := (1 : Int32)) hx hb dX6_isToGo_19 (by decide) ?_
      refine lv_goto (tgt := 24) hx hb dX6_isToGo_20 (by decide) ?_
      have hq1 := Option.some.inj hF
      subst hq1
      exact e_z hx hb hr hlk hK hN hW hS (by decide) dX6_isToGo_24

set_option maxHeartbeats 4000000 in
set_option maxRecDepth 100000 in
theorem c6_isToGo (l : Launch) {D : va_G} {cA : Nat → ClassId} {z : Nat} {ad : Nat → Nat → Nat} {N : TN} {S : TS} {P : TP} {M : TS} (a1 : Int32) {v : Int32} (hF : f6_isToGo M a1 = some v) : Met l yX6_isToGo wsX6_isToGo rm6_isToGo (va_Pc [.ref (ad 6 0), .int a1] (Wl D cA z (ad, N, S, P, M))) (Qi D cA z v (ad, N, S, P, M)) 0 0 (fun q => z ≤ q) := by
  refine Met.ofW (cc := cX6_isToGo) (maxL := 2) (ret := (some .boolean)) (by decide) rfl ?_
  intro p e s m args below meth c s₁ B hml hv
  obtain ⟨rfl, hW, hK, hN⟩ := hv
  have hl := lv_entry ([.ref (ad 6 0), .int a1]) (n := 2) (Nat.le_of_ble_eq_true rfl)
  rw [lg_entry_eq]
  generalize (lg_sl ([.ref (ad 6 0), .int a1]) ++ List.replicate (2 - (lg_sl ([.ref (ad 6 0), .int a1])).length) Slot.unset).toArray = ls at hl ⊢
  exact w6_isToGo ⟨B.exec, B.bytes, B.returns, hml, findClass_of_methodNamed B.named, atoms_spec (ws := wsX6_isToGo) B.pre, B.notSynchronized⟩ hK hN a1 hF hW va_S.rf hl

-- 6 put
abbrev rm6_put : Room := { frames := 0, cells := 0, slots := 0, locals := 0 }
def f6_put (M : TS) (a1 : Int32) (a2 : Int32) (a3 : Int32) : Option (TS) :=
  (ix (((13 : Int32) * a1) + a2) 5200).bind fun (j1 : Nat) =>
  lt (up M 3500 j1 a3) fun (M2 : TS) =>
  some M2
set_option maxRecDepth 20000 in
theorem hi6_put_6 : ∀ w ∈ u_ws RX6 TX6 31, w ∈ wsX6_put := by decide +kernel
set_option maxHeartbeats 4000000 in
set_option maxRecDepth 100000 in
theorem w6_put {p : Program} {l : Launch} {e : Env} {s : State} {m : MethodId} {args : Array Value} {below : List Frame} {meth : Method} {c : Code} (C : MC p s m args meth c cX6_put none 4 RX6 wsX6_put) {D : va_G} {cA : Nat → ClassId} {z : Nat} {ad : Nat → Nat → Nat} {N : TN} (hK : va_K D vwCl (tysW cA) s) (hN : NW s) {S : TS} {P : TP} {M : TS} (a1 : Int32) (a2 : Int32) (a3 : Int32) {M' : TS} (hF : f6_put M a1 a2 a3 = some M')
    {H : Heap} {ls : Array Slot} (hW : Wd D cA z ad N S P M H) {locs : List Loc} (hS : va_S (fun q => z ≤ q) s.heap H locs) (hl : lv_has ls 4 [(0, .ref (ad 6 0)), (1, .int a1), (2, .int a2), (3, .int a3)]) : W p l e rm6_put s m args below meth c H locs 0 0 (MQ below (Qv D cA z (ad, N, S, P, M')) args s 0 0 (fun q => z ≤ q)) (F0 m 0 ls []) := by
  obtain ⟨hx, hb, hr, hml, hown, hts, hlk⟩ := id C
  unfold f6_put at hF
  refine lv_aload_n hx hb dX6_put_0 rfl (lv_at hl 0 rfl) ?_
  refine g6_15 hx hb hts hi6_put_6 hown hK hW (hts (.fieldLink RX6 56 RX6 "ticket" "[I") (by decide +kernel)) dX6_put_1 ?_
  refine lv_bipush (v := (13 : Int32)) hx hb dX6_put_4 (by decide) ?_
  refine lv_iload_n hx hb dX6_put_6 rfl (lv_at hl 1 rfl) ?_
  refine lv_imul hx hb dX6_put_7 ?_
  refine lv_iload_n hx hb dX6_put_8 rfl (lv_at hl 2 rfl) ?_
  refine lv_iadd hx hb dX6_put_9 ?_
  refine lv_iload_n hx hb dX6_put_10 rfl (lv_at hl 3 rfl) ?_
  replace hF := ob hF
  obtain ⟨j1, ej1, hF⟩ := hF
  replace hF := lt_ex hF
  obtain ⟨M2, eM2, hF⟩ := hF
  refine t35 hx hb hK hW hS ej1 eM2 dX6_put_11 ?_
  clear hW hS; intro H locs hW hS
  have hq1 := Option.some.inj hF
  subst hq1
  exact e_v hx hb hr hlk hK hN hW hS dX6_put_12

set_option maxHeartbeats 4000000 in
set_option maxRecDepth 100000 in
theorem c6_put (l : Launch) {D : va_G} {cA : Nat → ClassId} {z : Nat} {ad : Nat → Nat → Nat} {N : TN} {S : TS} {P : TP} {M : TS} (a1 : Int32) (a2 : Int32) (a3 : Int32) {M' : TS} (hF : f6_put M a1 a2 a3 = some M') : Met l yX6_put wsX6_put rm6_put (va_Pc [.ref (ad 6 0), .int a1, .int a2, .int a3] (Wl D cA z (ad, N, S, P, M))) (Qv D cA z (ad, N, S, P, M')) 0 0 (fun q => z ≤ q) := by
  refine Met.ofW (cc := cX6_put) (maxL := 4) (ret := none) (by decide) rfl ?_
  intro p e s m args below meth c s₁ B hml hv
  obtain ⟨rfl, hW, hK, hN⟩ := hv
  have hl := lv_entry ([.ref (ad 6 0), .int a1, .int a2, .int a3]) (n := 4) (Nat.le_of_ble_eq_true rfl)
  rw [lg_entry_eq]
  generalize (lg_sl ([.ref (ad 6 0), .int a1, .int a2, .int a3]) ++ List.replicate (4 - (lg_sl ([.ref (ad 6 0), .int a1, .int a2, .int a3])).length) Slot.unset).toArray = ls at hl ⊢
  exact w6_put ⟨B.exec, B.bytes, B.returns, hml, findClass_of_methodNamed B.named, atoms_spec (ws := wsX6_put) B.pre, B.notSynchronized⟩ hK hN a1 a2 a3 hF hW va_S.rf hl

-- 6 arrive
abbrev rm6_arrive : Room := { frames := 1, cells := 0, slots := 0, locals := 23 }
def f6_arrive (M : TS) (a1 : Int32) (a2 : Int32) : Option (Int32 × TS) :=
  (f6_isTicket M a1).bind fun (v1 : Int32) =>
  if v1 = 0 then
  (some ((0 : Int32), M))
  else
  ((f6_of M a1 (4 : Int32)).bind fun (v3 : Int32) =>
  if v3 = 0 then
  ((f6_isIn a2 (0 : Int32) (200000 : Int32)).bind fun (v5 : Int32) =>
  if v5 = 0 then
  (some ((0 : Int32), M))
  else
  ((f6_of M a1 (0 : Int32)).bind fun (v7 : Int32) =>
  (f6_isToGo M v7).bind fun (v9 : Int32) =>
  if v9 = 0 then
  (some ((0 : Int32), M))
  else
  ((f6_put M a1 (4 : Int32) (1 : Int32)).bind fun (M11 : TS) =>
  (f6_put M11 a1 (5 : Int32) a2).bind fun (M13 : TS) =>
  some ((1 : Int32), M13))))
  else
  (some ((0 : Int32), M)))
set_option maxHeartbeats 4000000 in
set_option maxRecDepth 100000 in
theorem w6_arrive {p : Program} {l : Launch} {e : Env} {s : State} {m : MethodId} {args : Array Value} {below : List Frame} {meth : Method} {c : Code} (C : MC p s m args meth c cX6_arrive (some .boolean) 3 RX6 wsX6_arrive) {D : va_G} {cA : Nat → ClassId} {z : Nat} {ad : Nat → Nat → Nat} {N : TN} (hK : va_K D vwCl (tysW cA) s) (hN : NW s) {S : TS} {P : TP} {M : TS} (a1 : Int32) (a2 : Int32) {v : Int32} {M' : TS} (hF : f6_arrive M a1 a2 = some (v, M'))
    {H : Heap} {ls : Array Slot} (hW : Wd D cA z ad N S P M H) {locs : List Loc} (hS : va_S (fun q => z ≤ q) s.heap H locs) (hl : lv_has ls 3 [(0, .ref (ad 6 0)), (1, .int a1), (2, .int a2)]) : W p l e rm6_arrive s m args below meth c H locs 0 0 (MQ below (Qi D cA z v (ad, N, S, P, M')) args s 0 0 (fun q => z ≤ q)) (F0 m 0 ls []) := by
  obtain ⟨hx, hb, hr, hml, hown, hts, hlk⟩ := id C
  unfold f6_arrive at hF
  refine lv_aload_n hx hb dX6_arrive_0 rfl (lv_at hl 0 rfl) ?_
  refine lv_iload_n hx hb dX6_arrive_1 rfl (lv_at hl 1 rfl) ?_
  replace hF := ob hF
  obtain ⟨v1, q2, hF⟩ := hF
  refine k_i (va_runV (As := [.int a1]) (rest := []) ⟨hx, hb, hml, hown, hts⟩ (c6_isTicket l a1 q2) (cwV 1 hts gX6_arrive_X6_isTicket rfl rfl rfl (by decide +kernel) ⟨Nat.le_of_ble_eq_true rfl, Nat.le_of_ble_eq_true rfl⟩) (k_preV hW hK hN (hW.fx 6 rfl) (EE_6 cA ad S P M 0) rfl) rfl rfl hl.1 rfl (lv_room (Nat.le_of_ble_eq_true rfl)) dX6_arrive_2 ⟨Nat.le_of_ble_eq_true rfl, Nat.le_of_ble_eq_true rfl⟩) hS ?_
  clear hW hS; intro H locs hW hS
  refine lv_if_eq (tgt := 40) hx hb dX6_arrive_5 (by decide) (fun hc => ?_) (fun hc => ?_)
  · replace hF := it_t hF hc
    refine lv_iconst (v := (0 : Int32)) hx hb dX6_arrive_40 (by decide) ?_
    obtain ⟨hq1, hq2⟩ := Prod.mk.inj (Option.some.inj hF)
    subst hq1
    subst hq2
    exact e_z hx hb hr hlk hK hN hW hS (by decide) dX6_arrive_41
  · replace hF := it_f hF hc
    refine lv_aload_n hx hb dX6_arrive_8 rfl (lv_at hl 0 rfl) ?_
    refine lv_iload_n hx hb dX6_arrive_9 rfl (lv_at hl 1 rfl) ?_
    refine lv_iconst (v := (4 : Int32)) hx hb dX6_arrive_10 (by decide) ?_
    replace hF := ob hF
    obtain ⟨v3, q4, hF⟩ := hF
    refine k_i (va_runV (As := [.int a1, .int (4 : Int32)]) (rest := []) ⟨hx, hb, hml, hown, hts⟩ (c6_of l a1 (4 : Int32) q4) (cwV 2 hts gX6_arrive_X6_of rfl rfl rfl (by decide +kernel) ⟨Nat.le_of_ble_eq_true rfl, Nat.le_of_ble_eq_true rfl⟩) (k_preV hW hK hN (hW.fx 6 rfl) (EE_6 cA ad S P M 0) rfl) rfl rfl hl.1 rfl (lv_room (Nat.le_of_ble_eq_true rfl)) dX6_arrive_11 ⟨Nat.le_of_ble_eq_true rfl, Nat.le_of_ble_eq_true rfl⟩) hS ?_
    clear hW hS; intro H locs hW hS
    refine lv_if_ne (tgt := 40) hx hb dX6_arrive_14 (by decide) (fun hc => ?_) (fun hc => ?_)
    · replace hF := it_f hF hc
      refine lv_iconst (v := (0 : Int32)) hx hb dX6_arrive_40 (by decide) ?_
      obtain ⟨hq1, hq2⟩ := Prod.mk.inj (Option.some.inj hF)
      subst hq1
      subst hq2
      exact e_z hx hb hr hlk hK hN hW hS (by decide) dX6_arrive_41
    · replace hF := it_t hF hc
      refine lv_iload_n hx hb dX6_arrive_17 rfl (lv_at hl 2 rfl) ?_
      refine lv_iconst (v := (0 : Int32)) hx hb dX6_arrive_18 (by decide) ?_
      refine lv_ldc (v := (200000 : Int32)) hx hb hown (hts (.constant RX6 119 (200000)) (by decide +kernel)) dX6_arrive_19 ?_
      replace hF := ob hF
      obtain ⟨v5, q6, hF⟩ := hF
      refine k_i (va_runS (As := [.int a2, .int (0 : Int32), .int (200000 : Int32)]) (rest := []) ⟨hx, hb, hml, hown, hts⟩ (c6_isIn l a2 (0 : Int32) (200000 : Int32) q6) (va_cwS 3 hts gX6_arrive_X6_isIn rfl rfl rfl (by decide +kernel) ⟨Nat.le_of_ble_eq_true rfl, Nat.le_of_ble_eq_true rfl⟩) (k_preS hW hK hN) rfl rfl hl.1 rfl (lv_room (Nat.le_of_ble_eq_true rfl)) dX6_arrive_21 ⟨Nat.le_of_ble_eq_true rfl, Nat.le_of_ble_eq_true rfl⟩) hS ?_
      clear hW hS; intro H locs hW hS
      refine lv_if_eq (tgt := 40) hx hb dX6_arrive_24 (by decide) (fun hc => ?_) (fun hc => ?_)
      · replace hF := it_t hF hc
        refine lv_iconst (v := (0 : Int32)) hx hb dX6_arrive_40 (by decide) ?_
        obtain ⟨hq1, hq2⟩ := Prod.mk.inj (Option.some.inj hF)
        subst hq1
        subst hq2
        exact e_z hx hb hr hlk hK hN hW hS (by decide) dX6_arrive_41
      · replace hF := it_f hF hc
        refine lv_aload_n hx hb dX6_arrive_27 rfl (lv_at hl 0 rfl) ?_
        refine lv_aload_n hx hb dX6_arrive_28 rfl (lv_at hl 0 rfl) ?_
        refine lv_iload_n hx hb dX6_arrive_29 rfl (lv_at hl 1 rfl) ?_
        refine lv_iconst (v := (0 : Int32)) hx hb dX6_arrive_30 (by decide) ?_
        replace hF := ob hF
        obtain ⟨v7, q8, hF⟩ := hF
        refine k_i (va_runV (As := [.int a1, .int (0 : Int32)]) (rest := [.ref (ad 6 0)]) ⟨hx, hb, hml, hown, hts⟩ (c6_of l a1 (0 : Int32) q8) (cwV 2 hts gX6_arrive_X6_of rfl rfl rfl (by decide +kernel) ⟨Nat.le_of_ble_eq_true rfl, Nat.le_of_ble_eq_true rfl⟩) (k_preV hW hK hN (hW.fx 6 rfl) (EE_6 cA ad S P M 0) rfl) rfl rfl hl.1 rfl (lv_room (Nat.le_of_ble_eq_true rfl)) dX6_arrive_31 ⟨Nat.le_of_ble_eq_true rfl, Nat.le_of_ble_eq_true rfl⟩) hS ?_
        clear hW hS; intro H locs hW hS
        replace hF := ob hF
        obtain ⟨v9, q10, hF⟩ := hF
        refine k_i (va_runV (As := [.int v7]) (rest := []) ⟨hx, hb, hml, hown, hts⟩ (c6_isToGo l v7 q10) (cwV 1 hts gX6_arrive_X6_isToGo rfl rfl rfl (by decide +kernel) ⟨Nat.le_of_ble_eq_true rfl, Nat.le_of_ble_eq_true rfl⟩) (k_preV hW hK hN (hW.fx 6 rfl) (EE_6 cA ad S P M 0) rfl) rfl rfl hl.1 rfl (lv_room (Nat.le_of_ble_eq_true rfl)) dX6_arrive_34 ⟨Nat.le_of_ble_eq_true rfl, Nat.le_of_ble_eq_true rfl⟩) hS ?_
        clear hW hS; intro H locs hW hS
        refine lv_if_ne (tgt := 42) hx hb dX6_arrive_37 (by decide) (fun hc => ?_) (fun hc => ?_)
        · replace hF := it_f hF hc
          refine lv_aload_n hx hb dX6_arrive_42 rfl (lv_at hl 0 rfl) ?_
          refine lv_iload_n hx hb dX6_arrive_43 rfl (lv_at hl 1 rfl) ?_
          refine lv_iconst (v := (4 : Int32)) hx hb dX6_arrive_44 (by decide) ?_
          refine lv_iconst (v := (1 : Int32)) hx hb dX6_arrive_45 (by decide) ?_
          replace hF := ob hF
          obtain ⟨M11, q12, hF⟩ := hF
          refine k_v (va_runV (As := [.int a1, .int (4 : Int32), .int (1 : Int32)]) (rest := []) ⟨hx, hb, hml, hown, hts⟩ (c6_put l a1 (4 : Int32) (1 : Int32) q12) (cwV 3 hts gX6_arrive_X6_put rfl rfl rfl (by decide +kernel) ⟨Nat.le_of_ble_eq_true rfl, Nat.le_of_ble_eq_true rfl⟩) (k_preV hW hK hN (hW.fx 6 rfl) (EE_6 cA ad S P M 0) rfl) rfl rfl hl.1 rfl (lv_room (Nat.le_of_ble_eq_true rfl)) dX6_arrive_46 ⟨Nat.le_of_ble_eq_true rfl, Nat.le_of_ble_eq_true rfl⟩) hS ?_
          clear hW hS; intro H locs hW hS
          refine lv_aload_n hx hb dX6_arrive_49 rfl (lv_at hl 0 rfl) ?_
          refine lv_iload_n hx hb dX6_arrive_50 rfl (lv_at hl 1 rfl) ?_
          refine lv_iconst (v := (5 : Int32)) hx hb dX6_arrive_51 (by decide) ?_
          refine lv_iload_n hx hb dX6_arrive_52 rfl (lv_at hl 2 rfl) ?_
          replace hF := ob hF
          obtain ⟨M13, q14, hF⟩ := hF
          refine k_v (va_runV (As := [.int a1, .int (5 : Int32), .int a2]) (rest := []) ⟨hx, hb, hml, hown, hts⟩ (c6_put l a1 (5 : Int32) a2 q14) (cwV 3 hts gX6_arrive_X6_put rfl rfl rfl (by decide +kernel) ⟨Nat.le_of_ble_eq_true rfl, Nat.le_of_ble_eq_true rfl⟩) (k_preV hW hK hN (hW.fx 6 rfl) (EE_6 cA ad S P M11 0) rfl) rfl rfl hl.1 rfl (lv_room (Nat.le_of_ble_eq_true rfl)) dX6_arrive_53 ⟨Nat.le_of_ble_eq_true rfl, Nat.le_of_ble_eq_true rfl⟩) hS ?_
          clear hW hS; intro H locs hW hS
          refine lv_iconst (v := (1 : Int32)) hx hb dX6_arrive_56 (by decide) ?_
          obtain ⟨hq1, hq2⟩ := Prod.mk.inj (Option.some.inj hF)
          subst hq1
          subst hq2
          exact e_z hx hb hr hlk hK hN hW hS (by decide) dX6_arrive_57
        · replace hF := it_t hF hc
          refine lv_iconst (v := (0 : Int32)) hx hb dX6_arrive_40 (by decide) ?_
          obtain ⟨hq1, hq2⟩ := Prod.mk.inj (Option.some.inj hF)
          subst hq1
          subst hq2
          exact e_z hx hb hr hlk hK hN hW hS (by decide) dX6_arrive_41

set_option maxHeartbeats 4000000 in
set_option maxRecDepth 100000 in
theorem c6_arrive (l : Launch) {D : va_G} {cA : Nat → ClassId} {z : Nat} {ad : Nat → Nat → Nat} {N : TN} {S : TS} {P : TP} {M : TS} (a1 : Int32) (a2 : Int32) {v : Int32} {M' : TS} (hF : f6_arrive M a1 a2 = some (v, M')) : Met l yX6_arrive wsX6_arrive rm6_arrive (va_Pc [.ref (ad 6 0), .int a1, .int a2] (Wl D cA z (ad, N, S, P, M))) (Qi D cA z v (ad, N, S, P, M')) 0 0 (fun q => z ≤ q) := by
  refine Met.ofW (cc := cX6_arrive) (maxL := 3) (ret := (some .boolean)) (by decide) rfl ?_
  intro p e s m args below meth c s₁ B hml hv
  obtain ⟨rfl, hW, hK, hN⟩ := hv
  have hl := lv_entry ([.ref (ad 6 0), .int a1, .int a2]) (n := 3) (Nat.le_of_ble_eq_true rfl)
  rw [lg_entry_eq]
  generalize (lg_sl ([.ref (ad 6 0), .int a1, .int a2]) ++ List.replicate (3 - (lg_sl ([.ref (ad 6 0), .int a1, .int a2])).length) Slot.unset).toArray = ls at hl ⊢
  exact w6_arrive ⟨B.exec, B.bytes, B.returns, hml, findClass_of_methodNamed B.named, atoms_spec (ws := wsX6_arrive) B.pre, B.notSynchronized⟩ hK hN a1 a2 hF hW va_S.rf hl

-- 6 isShip
abbrev rm6_isShip : Room := { frames := 0, cells := 0, slots := 0, locals := 0 }
def f6_isShip (M : TS) (a1 : Int32) : Option (Int32) :=
  if a1 < 0 then
  (some (0 : Int32))
  else
  (if (M 620 0) ≤ a1 then
  (some (0 : Int32))
  else
  (some (1 : Int32)))
set_option maxRecDepth 20000 in
theorem hi6_isShip_6 : ∀ w ∈ u_ws RX6 TX6 31, w ∈ wsX6_isShip := by decide +kernel
set_option maxHeartbeats 4000000 in
set_option maxRecDepth 100000 in
theorem w6_isShip {p : Program} {l : Launch} {e : Env} {s : State} {m : MethodId} {args : Array Value} {below : List Frame} {meth : Method} {c : Code} (C : MC p s m args meth c cX6_isShip (some .boolean) 2 RX6 wsX6_isShip) {D : va_G} {cA : Nat → ClassId} {z : Nat} {ad : Nat → Nat → Nat} {N : TN} (hK : va_K D vwCl (tysW cA) s) (hN : NW s) {S : TS} {P : TP} {M : TS} (a1 : Int32) {v : Int32} (hF : f6_isShip M a1 = some v)
    {H : Heap} {ls : Array Slot} (hW : Wd D cA z ad N S P M H) {locs : List Loc} (hS : va_S (fun q => z ≤ q) s.heap H locs) (hl : lv_has ls 2 [(0, .ref (ad 6 0)), (1, .int a1)]) : W p l e rm6_isShip s m args below meth c H locs 0 0 (MQ below (Qi D cA z v (ad, N, S, P, M)) args s 0 0 (fun q => z ≤ q)) (F0 m 0 ls []) := by
  obtain ⟨hx, hb, hr, hml, hown, hts, hlk⟩ := id C
  unfold f6_isShip at hF
  refine lv_iload_n hx hb dX6_isShip_0 rfl (lv_at hl 1 rfl) ?_
  refine lv_if_lt (tgt := 16) hx hb dX6_isShip_1 (by decide) (fun hc => ?_) (fun hc => ?_)
  · replace hF := it_t hF hc
    refine lv_iconst (v := (0 : Int32)) hx hb dX6_isShip_16 (by decide) ?_
    have hq1 := Option.some.inj hF
    subst hq1
    exact e_z hx hb hr hlk hK hN hW hS (by decide) dX6_isShip_17
  · replace hF := it_f hF hc
    refine lv_iload_n hx hb dX6_isShip_4 rfl (lv_at hl 1 rfl) ?_
    refine lv_aload_n hx hb dX6_isShip_5 rfl (lv_at hl 0 rfl) ?_
    refine g6_20 hx hb hts hi6_isShip_6 hown hK hW (hts (.fieldLink RX6 81 RX6 "ships" "I") (by decide +kernel)) dX6_isShip_6 ?_
    refine lv_icmp_ge (tgt := 16) hx hb dX6_isShip_9 (by decide) (fun hc => ?_) (fun hc => ?_)
    · replace hF := it_t hF hc
      refine lv_iconst (v := (0 : Int32)) hx hb dX6_isShip_16 (by decide) ?_
      have hq1 := Option.some.inj hF
      subst hq1
      exact e_z hx hb hr hlk hK hN hW hS (by decide) dX6_isShip_17
    · replace hF := it_f hF hc
      refine lv_iconst (v := (1 : Int32)) hx hb dX6_isShip_12 (by decide) ?_
      refine lv_goto (tgt := 17) hx hb dX6_isShip_13 (by decide) ?_
      have hq1 := Option.some.inj hF
      subst hq1
      exact e_z hx hb hr hlk hK hN hW hS (by decide) dX6_isShip_17

set_option maxHeartbeats 4000000 in
set_option maxRecDepth 100000 in
theorem c6_isShip (l : Launch) {D : va_G} {cA : Nat → ClassId} {z : Nat} {ad : Nat → Nat → Nat} {N : TN} {S : TS} {P : TP} {M : TS} (a1 : Int32) {v : Int32} (hF : f6_isShip M a1 = some v) : Met l yX6_isShip wsX6_isShip rm6_isShip (va_Pc [.ref (ad 6 0), .int a1] (Wl D cA z (ad, N, S, P, M))) (Qi D cA z v (ad, N, S, P, M)) 0 0 (fun q => z ≤ q) := by
  refine Met.ofW (cc := cX6_isShip) (maxL := 2) (ret := (some .boolean)) (by decide) rfl ?_
  intro p e s m args below meth c s₁ B hml hv
  obtain ⟨rfl, hW, hK, hN⟩ := hv
  have hl := lv_entry ([.ref (ad 6 0), .int a1]) (n := 2) (Nat.le_of_ble_eq_true rfl)
  rw [lg_entry_eq]
  generalize (lg_sl ([.ref (ad 6 0), .int a1]) ++ List.replicate (2 - (lg_sl ([.ref (ad 6 0), .int a1])).length) Slot.unset).toArray = ls at hl ⊢
  exact w6_isShip ⟨B.exec, B.bytes, B.returns, hml, findClass_of_methodNamed B.named, atoms_spec (ws := wsX6_isShip) B.pre, B.notSynchronized⟩ hK hN a1 hF hW va_S.rf hl

-- 6 isLane
abbrev rm6_isLane : Room := { frames := 1, cells := 0, slots := 0, locals := 22 }
def f6_isLane (M : TS) (a1 : Int32) (a2 : Int32) (a3 : Int32) : Option (Int32) :=
  (f6_isShip M a1).bind fun (v1 : Int32) =>
  if v1 = 0 then
  (some (0 : Int32))
  else
  ((ix a1 12).bind fun (j3 : Nat) =>
  (f6_isIn a2 (0 : Int32) ((M 2000 j3) - (1 : Int32))).bind fun (v4 : Int32) =>
  if v4 = 0 then
  (some (0 : Int32))
  else
  ((ix a1 12).bind fun (j6 : Nat) =>
  (f6_isIn a3 (0 : Int32) ((M 2100 j6) - (1 : Int32))).bind fun (v7 : Int32) =>
  if v7 = 0 then
  (some (0 : Int32))
  else
  (some (1 : Int32))))
set_option maxRecDepth 20000 in
theorem hi6_isLane_6 : ∀ w ∈ u_ws RX6 TX6 31, w ∈ wsX6_isLane := by decide +kernel
set_option maxHeartbeats 4000000 in
set_option maxRecDepth 100000 in
theorem w6_isLane {p : Program} {l : Launch} {e : Env} {s : State} {m : MethodId} {args : Array Value} {below : List Frame} {meth : Method} {c : Code} (C : MC p s m args meth c cX6_isLane (some .boolean) 4 RX6 wsX6_isLane) {D : va_G} {cA : Nat → ClassId} {z : Nat} {ad : Nat → Nat → Nat} {N : TN} (hK : va_K D vwCl (tysW cA) s) (hN : NW s) {S : TS} {P : TP} {M : TS} (a1 : Int32) (a2 : Int32) (a3 : Int32) {v : Int32} (hF : f6_isLane M a1 a2 a3 = some v)
    {H : Heap} {ls : Array Slot} (hW : Wd D cA z ad N S P M H) {locs : List Loc} (hS : va_S (fun q => z ≤ q) s.heap H locs) (hl : lv_has ls 4 [(0, .ref (ad 6 0)), (1, .int a1), (2, .int a2), (3, .int a3)]) : W p l e rm6_isLane s m args below meth c H locs 0 0 (MQ below (Qi D cA z v (ad, N, S, P, M)) args s 0 0 (fun q => z ≤ q)) (F0 m 0 ls []) := by
  obtain ⟨hx, hb, hr, hml, hown, hts, hlk⟩ := id C
  unfold f6_isLane at hF
  refine lv_aload_n hx hb dX6_isLane_0 rfl (lv_at hl 0 rfl) ?_
  refine lv_iload_n hx hb dX6_isLane_1 rfl (lv_at hl 1 rfl) ?_
  replace hF := ob hF
  obtain ⟨v1, q2, hF⟩ := hF
  refine k_i (va_runV (As := [.int a1]) (rest := []) ⟨hx, hb, hml, hown, hts⟩ (c6_isShip l a1 q2) (cwV 1 hts gX6_isLane_X6_isShip rfl rfl rfl (by decide +kernel) ⟨Nat.le_of_ble_eq_true rfl, Nat.le_of_ble_eq_true rfl⟩) (k_preV hW hK hN (hW.fx 6 rfl) (EE_6 cA ad S P M 0) rfl) rfl rfl hl.1 rfl (lv_room (Nat.le_of_ble_eq_true rfl)) dX6_isLane_2 ⟨Nat.le_of_ble_eq_true rfl, Nat.le_of_ble_eq_true rfl⟩) hS ?_
  clear hW hS; intro H locs hW hS
  refine lv_if_eq (tgt := 44) hx hb dX6_isLane_5 (by decide) (fun hc => ?_) (fun hc => ?_)
  · replace hF := it_t hF hc
    refine lv_iconst (v := (0 : Int32)) hx hb dX6_isLane_44 (by decide) ?_
    have hq1 := Option.some.inj hF
    subst hq1
    exact e_z hx hb hr hlk hK hN hW hS (by decide) dX6_isLane_45
  · replace hF := it_f hF hc
    refine lv_iload_n hx hb dX6_isLane_8 rfl (lv_at hl 2 rfl) ?_
    refine lv_iconst (v := (0 : Int32)) hx hb dX6_isLane_9 (by decide) ?_
    refine lv_aload_n hx hb dX6_isLane_10 rfl (lv_at hl 0 rfl) ?_
    refine g6_0 hx hb hts hi6_isLane_6 hown hK hW (hts (.fieldLink RX6 7 RX6 "decks" "[I") (by decide +kernel)) dX6_isLane_11 ?_
    refine lv_iload_n hx hb dX6_isLane_14 rfl (lv_at hl 1 rfl) ?_
    replace hF := ob hF
    obtain ⟨j3, ej3, hF⟩ := hF
    refine l20 hx hb hK hW ej3 dX6_isLane_15 ?_
    refine lv_iconst (v := (1 : Int32)) hx hb dX6_isLane_16 (by decide) ?_
    refine lv_isub hx hb dX6_isLane_17 ?_
    replace hF := ob hF
    obtain ⟨v4, q5, hF⟩ := hF
    refine k_i (va_runS (As := [.int a2, .int (0 : Int32), .int ((M 2000 j3) - (1 : Int32))]) (rest := []) ⟨hx, hb, hml, hown, hts⟩ (c6_isIn l a2 (0 : Int32) ((M 2000 j3) - (1 : Int32)) q5) (va_cwS 3 hts gX6_isLane_X6_isIn rfl rfl rfl (by decide +kernel) ⟨Nat.le_of_ble_eq_true rfl, Nat.le_of_ble_eq_true rfl⟩) (k_preS hW hK hN) rfl rfl hl.1 rfl (lv_room (Nat.le_of_ble_eq_true rfl)) dX6_isLane_18 ⟨Nat.le_of_ble_eq_true rfl, Nat.le_of_ble_eq_true rfl⟩) hS ?_
    clear hW hS; intro H locs hW hS
    refine lv_if_eq (tgt := 44) hx hb dX6_isLane_21 (by decide) (fun hc => ?_) (fun hc => ?_)
    · replace hF := it_t hF hc
      refine lv_iconst (v := (0 : Int32)) hx hb dX6_isLane_44 (by decide) ?_
      have hq1 := Option.some.inj hF
      subst hq1
      exact e_z hx hb hr hlk hK hN hW hS (by decide) dX6_isLane_45
    · replace hF := it_f hF hc
      refine lv_iload_n hx hb dX6_isLane_24 rfl (lv_at hl 3 rfl) ?_
      refine lv_iconst (v := (0 : Int32)) hx hb dX6_isLane_25 (by decide) ?_
      refine lv_aload_n hx hb dX6_isLane_26 rfl (lv_at hl 0 rfl) ?_
      refine g6_1 hx hb hts hi6_isLane_6 hown hK hW (hts (.fieldLink RX6 13 RX6 "lanes" "[I") (by decide +kernel)) dX6_isLane_27 ?_
      refine lv_iload_n hx hb dX6_isLane_30 rfl (lv_at hl 1 rfl) ?_
      replace hF := ob hF
      obtain ⟨j6, ej6, hF⟩ := hF
      refine l21 hx hb hK hW ej6 dX6_isLane_31 ?_
      refine lv_iconst (v := (1 : Int32)) hx hb dX6_isLane_32 (by decide) ?_
      refine lv_isub hx hb dX6_isLane_33 ?_
      replace hF := ob hF
      obtain ⟨v7, q8, hF⟩ := hF
      refine k_i (va_runS (As := [.int a3, .int (0 : Int32), .int ((M 2100 j6) - (1 : Int32))]) (rest := []) ⟨hx, hb, hml, hown, hts⟩ (c6_isIn l a3 (0 : Int32) ((M 2100 j6) - (1 : Int32)) q8) (va_cwS 3 hts gX6_isLane_X6_isIn rfl rfl rfl (by decide +kernel) ⟨Nat.le_of_ble_eq_true rfl, Nat.le_of_ble_eq_true rfl⟩) (k_preS hW hK hN) rfl rfl hl.1 rfl (lv_room (Nat.le_of_ble_eq_true rfl)) dX6_isLane_34 ⟨Nat.le_of_ble_eq_true rfl, Nat.le_of_ble_eq_true rfl⟩) hS ?_
      clear hW hS; intro H locs hW hS
      refine lv_if_eq (tgt := 44) hx hb dX6_isLane_37 (by decide) (fun hc => ?_) (fun hc => ?_)
      · replace hF := it_t hF hc
        refine lv_iconst (v := (0 : Int32)) hx hb dX6_isLane_44 (by decide) ?_
        have hq1 := Option.some.inj hF
        subst hq1
        exact e_z hx hb hr hlk hK hN hW hS (by decide) dX6_isLane_45
      · replace hF := it_f hF hc
        refine lv_iconst (v := (1 : Int32)) hx hb dX6_isLane_40 (by decide) ?_
        refine lv_goto (tgt := 45) hx hb dX6_isLane_41 (by decide) ?_
        have hq1 := Option.some.inj hF
        subst hq1
        exact e_z hx hb hr hlk hK hN hW hS (by decide) dX6_isLane_45

set_option maxHeartbeats 4000000 in
set_option maxRecDepth 100000 in
theorem c6_isLane (l : Launch) {D : va_G} {cA : Nat → ClassId} {z : Nat} {ad : Nat → Nat → Nat} {N : TN} {S : TS} {P : TP} {M : TS} (a1 : Int32) (a2 : Int32) (a3 : Int32) {v : Int32} (hF : f6_isLane M a1 a2 a3 = some v) : Met l yX6_isLane wsX6_isLane rm6_isLane (va_Pc [.ref (ad 6 0), .int a1, .int a2, .int a3] (Wl D cA z (ad, N, S, P, M))) (Qi D cA z v (ad, N, S, P, M)) 0 0 (fun q => z ≤ q) := by
  refine Met.ofW (cc := cX6_isLane) (maxL := 4) (ret := (some .boolean)) (by decide) rfl ?_
  intro p e s m args below meth c s₁ B hml hv
  obtain ⟨rfl, hW, hK, hN⟩ := hv
  have hl := lv_entry ([.ref (ad 6 0), .int a1, .int a2, .int a3]) (n := 4) (Nat.le_of_ble_eq_true rfl)
  rw [lg_entry_eq]
  generalize (lg_sl ([.ref (ad 6 0), .int a1, .int a2, .int a3]) ++ List.replicate (4 - (lg_sl ([.ref (ad 6 0), .int a1, .int a2, .int a3])).length) Slot.unset).toArray = ls at hl ⊢
  exact w6_isLane ⟨B.exec, B.bytes, B.returns, hml, findClass_of_methodNamed B.named, atoms_spec (ws := wsX6_isLane) B.pre, B.notSynchronized⟩ hK hN a1 a2 a3 hF hW va_S.rf hl

-- 6 openOf
abbrev rm6_openOf : Room := { frames := 0, cells := 0, slots := 0, locals := 0 }
def f6_openOf_2 (K : Option (Int32)) (M : TS) (c1 : Int32) : Nat → Int32 → Option (Int32)
  | 0, _ => none
  | n + 1, y2 =>
    if (M 622 0) ≤ y2 then
    (K)
    else
    ((ix y2 60).bind fun (j1 : Nat) =>
    if (M 2600 j1) = c1 then
    ((ix y2 60).bind fun (j2 : Nat) =>
    if (M 2900 j2) = (1 : Int32) then
    (some y2)
    else
    (f6_openOf_2 K M c1 n (y2 + 1)))
    else
    (f6_openOf_2 K M c1 n (y2 + 1)))

def f6_openOf (M : TS) (a1 : Int32) : Option (Int32) :=
  f6_openOf_2 (some (-1 : Int32)) M a1 FU (0 : Int32)
set_option maxRecDepth 20000 in
theorem hi6_openOf_6 : ∀ w ∈ u_ws RX6 TX6 31, w ∈ wsX6_openOf := by decide +kernel
set_option maxHeartbeats 4000000 in
set_option maxRecDepth 100000 in
theorem w6_openOf_2 {p : Program} {l : Launch} {e : Env} {s : State} {m : MethodId} {args : Array Value} {below : List Frame} {meth : Method} {c : Code} (C : MC p s m args meth c cX6_openOf (some .int) 3 RX6 wsX6_openOf) {D : va_G} {cA : Nat → ClassId} {z : Nat} {ad : Nat → Nat → Nat} {N : TN} (hK : va_K D vwCl (tysW cA) s) (hN : NW s) {S : TS} {P : TP} {M : TS} (c1 : Int32) {v : Int32} {K : Option (Int32)}
    (hE : ∀ (H : Heap) (locs : List Loc) (ls : Array Slot), K = some v → Wd D cA z ad N S P M H → va_S (fun q => z ≤ q) s.heap H locs → lv_has ls 3 [] → W p l e rm6_openOf s m args below meth c H locs 0 0 (MQ below (Qi D cA z v (ad, N, S, P, M)) args s 0 0 (fun q => z ≤ q)) (F0 m 38 ls [])) :
    ∀ (n : Nat) (y2 : Int32) (H : Heap) (locs : List Loc) (ls : Array Slot), f6_openOf_2 K M c1 n y2 = some v → Wd D cA z ad N S P M H → va_S (fun q => z ≤ q) s.heap H locs → lv_has ls 3 [(0, .ref (ad 6 0)), (1, .int c1), (2, .int y2)] → W p l e rm6_openOf s m args below meth c H locs 0 0 (MQ below (Qi D cA z v (ad, N, S, P, M)) args s 0 0 (fun q => z ≤ q)) (F0 m 2 ls []) := by
  obtain ⟨hx, hb, hr, hml, hown, hts, hlk⟩ := id C
  intro n
  induction n with
  | zero => intro y2 H locs ls hF; cases hF
  | succ n ih =>
    intro y2 H locs ls hF hW hS hl
    rw [f6_openOf_2] at hF
    refine lv_iload_n hx hb dX6_openOf_2 rfl (lv_at hl 2 rfl) ?_
    refine lv_aload_n hx hb dX6_openOf_3 rfl (lv_at hl 0 rfl) ?_
    refine g6_22 hx hb hts hi6_openOf_6 hown hK hW (hts (.fieldLink RX6 78 RX6 "sailings" "I") (by decide +kernel)) dX6_openOf_4 ?_
    refine lv_icmp_ge (tgt := 38) hx hb dX6_openOf_7 (by decide) (fun hc => ?_) (fun hc => ?_)
    · replace hF := it_t hF hc
      exact hE _ _ _ hF hW hS (lv_sub hl [] rfl)
    · replace hF := it_f hF hc
      refine lv_aload_n hx hb dX6_openOf_10 rfl (lv_at hl 0 rfl) ?_
      refine g6_6 hx hb hts hi6_openOf_6 hown hK hW (hts (.fieldLink RX6 29 RX6 "ship" "[I") (by decide +kernel)) dX6_openOf_11 ?_
      refine lv_iload_n hx hb dX6_openOf_14 rfl (lv_at hl 2 rfl) ?_
      replace hF := ob hF
      obtain ⟨j1, ej1, hF⟩ := hF
      refine l26 hx hb hK hW ej1 dX6_openOf_15 ?_
      refine lv_iload_n hx hb dX6_openOf_16 rfl (lv_at hl 1 rfl) ?_
      refine lv_icmp_ne (tgt := 32) hx hb dX6_openOf_17 (by decide) (fun hc => ?_) (fun hc => ?_)
      · replace hF := it_f hF hc
        refine lv_iinc (v := y2 + 1) (lv' := [(2, .int (y2 + 1)), (0, .ref (ad 6 0)), (1, .int c1)]) hx hb dX6_openOf_32 hl (k := 2) rfl rfl (by decide) rfl ?_
        clear hl; intro ls hl
        refine lv_goto (tgt := 2) hx hb dX6_openOf_35 (by decide) ?_
        exact ih (y2 + 1) _ _ _ hF hW hS (lv_sub hl [1, 2, 0] rfl)
      · replace hF := it_t hF hc
        refine lv_aload_n hx hb dX6_openOf_20 rfl (lv_at hl 0 rfl) ?_
        refine g6_9 hx hb hts hi6_openOf_6 hown hK hW (hts (.fieldLink RX6 38 RX6 "how" "[I") (by decide +kernel)) dX6_openOf_21 ?_
        refine lv_iload_n hx hb dX6_openOf_24 rfl (lv_at hl 2 rfl) ?_
        replace hF := ob hF
        obtain ⟨j2, ej2, hF⟩ := hF
        refine l29 hx hb hK hW ej2 dX6_openOf_25 ?_
        refine lv_iconst (v := (1 : Int32)) hx hb dX6_openOf_26 (by decide) ?_
        refine lv_icmp_ne (tgt := 32) hx hb dX6_openOf_27 (by decide) (fun hc => ?_) (fun hc => ?_)
        · replace hF := it_f hF hc
          refine lv_iinc (v := y2 + 1) (lv' := [(2, .int (y2 + 1)), (0, .ref (ad 6 0)), (1, .int c1)]) hx hb dX6_openOf_32 hl (k := 2) rfl rfl (by decide) rfl ?_
          clear hl; intro ls hl
          refine lv_goto (tgt := 2) hx hb dX6_openOf_35 (by decide) ?_
          exact ih (y2 + 1) _ _ _ hF hW hS (lv_sub hl [1, 2, 0] rfl)
        · replace hF := it_t hF hc
          refine lv_iload_n hx hb dX6_openOf_30 rfl (lv_at hl 2 rfl) ?_
          have hq1 := Option.some.inj hF
          subst hq1
          exact e_i hx hb hr hlk hK hN hW hS dX6_openOf_31

set_option maxHeartbeats 4000000 in
set_option maxRecDepth 100000 in
theorem w6_openOf {p : Program} {l : Launch} {e : Env} {s : State} {m : MethodId} {args : Array Value} {below : List Frame} {meth : Method} {c : Code} (C : MC p s m args meth c cX6_openOf (some .int) 3 RX6 wsX6_openOf) {D : va_G} {cA : Nat → ClassId} {z : Nat} {ad : Nat → Nat → Nat} {N : TN} (hK : va_K D vwCl (tysW cA) s) (hN : NW s) {S : TS} {P : TP} {M : TS} (a1 : Int32) {v : Int32} (hF : f6_openOf M a1 = some v)
    {H : Heap} {ls : Array Slot} (hW : Wd D cA z ad N S P M H) {locs : List Loc} (hS : va_S (fun q => z ≤ q) s.heap H locs) (hl : lv_has ls 3 [(0, .ref (ad 6 0)), (1, .int a1)]) : W p l e rm6_openOf s m args below meth c H locs 0 0 (MQ below (Qi D cA z v (ad, N, S, P, M)) args s 0 0 (fun q => z ≤ q)) (F0 m 0 ls []) := by
  obtain ⟨hx, hb, hr, hml, hown, hts, hlk⟩ := id C
  unfold f6_openOf at hF
  refine lv_iconst (v := (0 : Int32)) hx hb dX6_openOf_0 (by decide) ?_
  refine lv_istore_n (lv' := [(2, .int (0 : Int32)), (0, .ref (ad 6 0)), (1, .int a1)]) hx hb dX6_openOf_1 rfl hl (by decide) rfl ?_
  clear hl; intro ls hl
  refine w6_openOf_2 C hK hN a1 (hE := ?_) FU (0 : Int32) _ _ _ hF hW hS (lv_sub hl [1, 2, 0] rfl)
  intro  H locs ls hF hW hS hl
  refine lv_iconst (v := (-1 : Int32)) hx hb dX6_openOf_38 (by decide) ?_
  have hq1 := Option.some.inj hF
  subst hq1
  exact e_i hx hb hr hlk hK hN hW hS dX6_openOf_39

set_option maxHeartbeats 4000000 in
set_option maxRecDepth 100000 in
theorem c6_openOf (l : Launch) {D : va_G} {cA : Nat → ClassId} {z : Nat} {ad : Nat → Nat → Nat} {N : TN} {S : TS} {P : TP} {M : TS} (a1 : Int32) {v : Int32} (hF : f6_openOf M a1 = some v) : Met l yX6_openOf wsX6_openOf rm6_openOf (va_Pc [.ref (ad 6 0), .int a1] (Wl D cA z (ad, N, S, P, M))) (Qi D cA z v (ad, N, S, P, M)) 0 0 (fun q => z ≤ q) := by
  refine Met.ofW (cc := cX6_openOf) (maxL := 3) (ret := (some .int)) (by decide) rfl ?_
  intro p e s m args below meth c s₁ B hml hv
  obtain ⟨rfl, hW, hK, hN⟩ := hv
  have hl := lv_entry ([.ref (ad 6 0), .int a1]) (n := 3) (Nat.le_of_ble_eq_true rfl)
  rw [lg_entry_eq]
  generalize (lg_sl ([.ref (ad 6 0), .int a1]) ++ List.replicate (3 - (lg_sl ([.ref (ad 6 0), .int a1])).length) Slot.unset).toArray = ls at hl ⊢
  exact w6_openOf ⟨B.exec, B.bytes, B.returns, hml, findClass_of_methodNamed B.named, atoms_spec (ws := wsX6_openOf) B.pre, B.notSynchronized⟩ hK hN a1 hF hW va_S.rf hl

-- 6 covers
abbrev rm6_covers : Room := { frames := 2, cells := 0, slots := 0, locals := 44 }
def f6_covers_3 (K : Option (Int32)) (M : TS) (c1 : Int32) (c2 : Int32) (c3 : Int32) (c4 : Int32) : Nat → Int32 → Option (Int32)
  | 0, _ => none
  | n + 1, y5 =>
    if (M 623 0) ≤ y5 then
    (K)
    else
    ((f6_isAboard M y5 c1).bind fun (v1 : Int32) =>
    if v1 = 0 then
    (f6_covers_3 K M c1 c2 c3 c4 n (y5 + 1))
    else
    ((f6_of M y5 (6 : Int32)).bind fun (v3 : Int32) =>
    if v3 = c2 then
    ((f6_of M y5 (7 : Int32)).bind fun (v5 : Int32) =>
    if v5 = c3 then
    ((f6_of M y5 (8 : Int32)).bind fun (v7 : Int32) =>
    if c4 < v7 then
    (f6_covers_3 K M c1 c2 c3 c4 n (y5 + 1))
    else
    ((f6_of M y5 (8 : Int32)).bind fun (v9 : Int32) =>
    (f6_of M y5 (1 : Int32)).bind fun (v11 : Int32) =>
    if (v9 + v11) ≤ c4 then
    (f6_covers_3 K M c1 c2 c3 c4 n (y5 + 1))
    else
    (some y5)))
    else
    (f6_covers_3 K M c1 c2 c3 c4 n (y5 + 1)))
    else
    (f6_covers_3 K M c1 c2 c3 c4 n (y5 + 1))))

def f6_covers (M : TS) (a1 : Int32) (a2 : Int32) (a3 : Int32) (a4 : Int32) : Option (Int32) :=
  f6_covers_3 (some (-1 : Int32)) M a1 a2 a3 a4 FU (0 : Int32)
set_option maxRecDepth 20000 in
theorem hi6_covers_6 : ∀ w ∈ u_ws RX6 TX6 31, w ∈ wsX6_covers := by decide +kernel
set_option maxHeartbeats 4000000 in
set_option maxRecDepth 100000 in
theorem w6_covers_3 {p : Program} {l : Launch} {e : Env} {s : State} {m : MethodId} {args : Array Value} {below : List Frame} {meth : Method} {c : Code} (C : MC p s m args meth c cX6_covers (some .int) 6 RX6 wsX6_covers) {D : va_G} {cA : Nat → ClassId} {z : Nat} {ad : Nat → Nat → Nat} {N : TN} (hK : va_K D vwCl (tysW cA) s) (hN : NW s) {S : TS} {P : TP} {M : TS} (c1 : Int32) (c2 : Int32) (c3 : Int32) (c4 : Int32) {v : Int32} {K : Option (Int32)}
    (hE : ∀ (H : Heap) (locs : List Loc) (ls : Array Slot), K = some v → Wd D cA z ad N S P M H → va_S (fun q => z ≤ q) s.heap H locs → lv_has ls 6 [] → W p l e rm6_covers s m args below meth c H locs 0 0 (MQ below (Qi D cA z v (ad, N, S, P, M)) args s 0 0 (fun q => z ≤ q)) (F0 m 89 ls [])) :
    ∀ (n : Nat) (y5 : Int32) (H : Heap) (locs : List Loc) (ls : Array Slot), f6_covers_3 K M c1 c2 c3 c4 n y5 = some v → Wd D cA z ad N S P M H → va_S (fun q => z ≤ q) s.heap H locs → lv_has ls 6 [(0, .ref (ad 6 0)), (1, .int c1), (2, .int c2), (3, .int c3), (4, .int c4), (5, .int y5)] → W p l e rm6_covers s m args below meth c H locs 0 0 (MQ below (Qi D cA z v (ad, N, S, P, M)) args s 0 0 (fun q => z ≤ q)) (F0 m 3 ls []) := by
  obtain ⟨hx, hb, hr, hml, hown, hts, hlk⟩ := id C
  intro n
  induction n with
  | zero => intro y5 H locs ls hF; cases hF
  | succ n ih =>
    intro y5 H locs ls hF hW hS hl
    rw [f6_covers_3] at hF
    refine lv_iload hx hb dX6_covers_3 (lv_at hl 5 rfl) ?_
    refine lv_aload_n hx hb dX6_covers_5 rfl (lv_at hl 0 rfl) ?_
    refine g6_23 hx hb hts hi6_covers_6 hown hK hW (hts (.fieldLink RX6 74 RX6 "tickets" "I") (by decide +kernel)) dX6_covers_6 ?_
    refine lv_icmp_ge (tgt := 89) hx hb dX6_covers_9 (by decide) (fun hc => ?_) (fun hc => ?_)
    · replace hF := it_t hF hc
      exact hE _ _ _ hF hW hS (lv_sub hl [] rfl)
    · replace hF := it_f hF hc
      refine lv_aload_n hx hb dX6_covers_12 rfl (lv_at hl 0 rfl) ?_
      refine lv_iload hx hb dX6_covers_13 (lv_at hl 5 rfl) ?_
      refine lv_iload_n hx hb dX6_covers_15 rfl (lv_at hl 1 rfl) ?_
      replace hF := ob hF
      obtain ⟨v1, q2, hF⟩ := hF
      refine k_i (va_runV (As := [.int y5, .int c1]) (rest := []) ⟨hx, hb, hml, hown, hts⟩ (c6_isAboard l y5 c1 q2) (cwV 2 hts gX6_covers_X6_isAboard rfl rfl rfl (by decide +kernel) ⟨Nat.le_of_ble_eq_true rfl, Nat.le_of_ble_eq_true rfl⟩) (k_preV hW hK hN (hW.fx 6 rfl) (EE_6 cA ad S P M 0) rfl) rfl rfl hl.1 rfl (lv_room (Nat.le_of_ble_eq_true rfl)) dX6_covers_16 ⟨Nat.le_of_ble_eq_true rfl, Nat.le_of_ble_eq_true rfl⟩) hS ?_
      clear hW hS; intro H locs hW hS
      refine lv_if_eq (tgt := 83) hx hb dX6_covers_19 (by decide) (fun hc => ?_) (fun hc => ?_)
      · replace hF := it_t hF hc
        refine lv_iinc (v := y5 + 1) (lv' := [(5, .int (y5 + 1)), (0, .ref (ad 6 0)), (1, .int c1), (2, .int c2), (3, .int c3), (4, .int c4)]) hx hb dX6_covers_83 hl (k := 5) rfl rfl (by decide) rfl ?_
        clear hl; intro ls hl
        refine lv_goto (tgt := 3) hx hb dX6_covers_86 (by decide) ?_
        exact ih (y5 + 1) _ _ _ hF hW hS (lv_sub hl [1, 2, 3, 4, 5, 0] rfl)
      · replace hF := it_f hF hc
        refine lv_aload_n hx hb dX6_covers_22 rfl (lv_at hl 0 rfl) ?_
        refine lv_iload hx hb dX6_covers_23 (lv_at hl 5 rfl) ?_
        refine lv_bipush (v := (6 : Int32)) hx hb dX6_covers_25 (by decide) ?_
        replace hF := ob hF
        obtain ⟨v3, q4, hF⟩ := hF
        refine k_i (va_runV (As := [.int y5, .int (6 : Int32)]) (rest := []) ⟨hx, hb, hml, hown, hts⟩ (c6_of l y5 (6 : Int32) q4) (cwV 2 hts gX6_covers_X6_of rfl rfl rfl (by decide +kernel) ⟨Nat.le_of_ble_eq_true rfl, Nat.le_of_ble_eq_true rfl⟩) (k_preV hW hK hN (hW.fx 6 rfl) (EE_6 cA ad S P M 0) rfl) rfl rfl hl.1 rfl (lv_room (Nat.le_of_ble_eq_true rfl)) dX6_covers_27 ⟨Nat.le_of_ble_eq_true rfl, Nat.le_of_ble_eq_true rfl⟩) hS ?_
        clear hW hS; intro H locs hW hS
        refine lv_iload_n hx hb dX6_covers_30 rfl (lv_at hl 2 rfl) ?_
        refine lv_icmp_ne (tgt := 83) hx hb dX6_covers_31 (by decide) (fun hc => ?_) (fun hc => ?_)
        · replace hF := it_f hF hc
          refine lv_iinc (v := y5 + 1) (lv' := [(5, .int (y5 + 1)), (0, .ref (ad 6 0)), (1, .int c1), (2, .int c2), (3, .int c3), (4, .int c4)]) hx hb dX6_covers_83 hl (k := 5) rfl rfl (by decide) rfl ?_
          clear hl; intro ls hl
          refine lv_goto (tgt := 3) hx hb dX6_covers_86 (by decide) ?_
          exact ih (y5 + 1) _ _ _ hF hW hS (lv_sub hl [1, 2, 3, 4, 5, 0] rfl)
        · replace hF := it_t hF hc
          refine lv_aload_n hx hb dX6_covers_34 rfl (lv_at hl 0 rfl) ?_
          refine lv_iload hx hb dX6_covers_35 (lv_at hl 5 rfl) ?_
          refine lv_bipush (v := (7 : Int32)) hx hb dX6_covers_37 (by decide) ?_
          replace hF := ob hF
          obtain ⟨v5, q6, hF⟩ := hF
          refine k_i (va_runV (As := [.int y5, .int (7 : Int32)]) (rest := []) ⟨hx, hb, hml, hown, hts⟩ (c6_of l y5 (7 : Int32) q6) (cwV 2 hts gX6_covers_X6_of rfl rfl rfl (by decide +kernel) ⟨Nat.le_of_ble_eq_true rfl, Nat.le_of_ble_eq_true rfl⟩) (k_preV hW hK hN (hW.fx 6 rfl) (EE_6 cA ad S P M 0) rfl) rfl rfl hl.1 rfl (lv_room (Nat.le_of_ble_eq_true rfl)) dX6_covers_39 ⟨Nat.le_of_ble_eq_true rfl, Nat.le_of_ble_eq_true rfl⟩) hS ?_
          clear hW hS; intro H locs hW hS
          refine lv_iload_n hx hb dX6_covers_42 rfl (lv_at hl 3 rfl) ?_
          refine lv_icmp_ne (tgt := 83) hx hb dX6_covers_43 (by decide) (fun hc => ?_) (fun hc => ?_)
          · replace hF := it_f hF hc
            refine lv_iinc (v := y5 + 1) (lv' := [(5, .int (y5 + 1)), (0, .ref (ad 6 0)), (1, .int c1), (2, .int c2), (3, .int c3), (4, .int c4)]) hx hb dX6_covers_83 hl (k := 5) rfl rfl (by decide) rfl ?_
            clear hl; intro ls hl
            refine lv_goto (tgt := 3) hx hb dX6_covers_86 (by decide) ?_
            exact ih (y5 + 1) _ _ _ hF hW hS (lv_sub hl [1, 2, 3, 4, 5, 0] rfl)
          · replace hF := it_t hF hc
            refine lv_iload hx hb dX6_covers_46 (lv_at hl 4 rfl) ?_
            refine lv_aload_n hx hb dX6_covers_48 rfl (lv_at hl 0 rfl) ?_
            refine lv_iload hx hb dX6_covers_49 (lv_at hl 5 rfl) ?_
            refine lv_bipush (v := (8 : Int32)) hx hb dX6_covers_51 (by decide) ?_
            replace hF := ob hF
            obtain ⟨v7, q8, hF⟩ := hF
            refine k_i (va_runV (As := [.int y5, .int (8 : Int32)]) (rest := [.int c4]) ⟨hx, hb, hml, hown, hts⟩ (c6_of l y5 (8 : Int32) q8) (cwV 2 hts gX6_covers_X6_of rfl rfl rfl (by decide +kernel) ⟨Nat.le_of_ble_eq_true rfl, Nat.le_of_ble_eq_true rfl⟩) (k_preV hW hK hN (hW.fx 6 rfl) (EE_6 cA ad S P M 0) rfl) rfl rfl hl.1 rfl (lv_room (Nat.le_of_ble_eq_true rfl)) dX6_covers_53 ⟨Nat.le_of_ble_eq_true rfl, Nat.le_of_ble_eq_true rfl⟩) hS ?_
            clear hW hS; intro H locs hW hS
            refine lv_icmp_lt (tgt := 83) hx hb dX6_covers_56 (by decide) (fun hc => ?_) (fun hc => ?_)
            · replace hF := it_t hF hc
              refine lv_iinc (v := y5 + 1) (lv' := [(5, .int (y5 + 1)), (0, .ref (ad 6 0)), (1, .int c1), (2, .int c2), (3, .int c3), (4, .int c4)]) hx hb dX6_covers_83 hl (k := 5) rfl rfl (by decide) rfl ?_
              clear hl; intro ls hl
              refine lv_goto (tgt := 3) hx hb dX6_covers_86 (by decide) ?_
              exact ih (y5 + 1) _ _ _ hF hW hS (lv_sub hl [1, 2, 3, 4, 5, 0] rfl)
            · replace hF := it_f hF hc
              refine lv_iload hx hb dX6_covers_59 (lv_at hl 4 rfl) ?_
              refine lv_aload_n hx hb dX6_covers_61 rfl (lv_at hl 0 rfl) ?_
              refine lv_iload hx hb dX6_covers_62 (lv_at hl 5 rfl) ?_
              refine lv_bipush (v := (8 : Int32)) hx hb dX6_covers_64 (by decide) ?_
              replace hF := ob hF
              obtain ⟨v9, q10, hF⟩ := hF
              refine k_i (va_runV (As := [.int y5, .int (8 : Int32)]) (rest := [.int c4]) ⟨hx, hb, hml, hown, hts⟩ (c6_of l y5 (8 : Int32) q10) (cwV 2 hts gX6_covers_X6_of rfl rfl rfl (by decide +kernel) ⟨Nat.le_of_ble_eq_true rfl, Nat.le_of_ble_eq_true rfl⟩) (k_preV hW hK hN (hW.fx 6 rfl) (EE_6 cA ad S P M 0) rfl) rfl rfl hl.1 rfl (lv_room (Nat.le_of_ble_eq_true rfl)) dX6_covers_66 ⟨Nat.le_of_ble_eq_true rfl, Nat.le_of_ble_eq_true rfl⟩) hS ?_
              clear hW hS; intro H locs hW hS
              refine lv_aload_n hx hb dX6_covers_69 rfl (lv_at hl 0 rfl) ?_
              refine lv_iload hx hb dX6_covers_70 (lv_at hl 5 rfl) ?_
              refine lv_iconst (v := (1 : Int32)) hx hb dX6_covers_72 (by decide) ?_
              replace hF := ob hF
              obtain ⟨v11, q12, hF⟩ := hF
              refine k_i (va_runV (As := [.int y5, .int (1 : Int32)]) (rest := [.int v9, .int c4]) ⟨hx, hb, hml, hown, hts⟩ (c6_of l y5 (1 : Int32) q12) (cwV 2 hts gX6_covers_X6_of rfl rfl rfl (by decide +kernel) ⟨Nat.le_of_ble_eq_true rfl, Nat.le_of_ble_eq_true rfl⟩) (k_preV hW hK hN (hW.fx 6 rfl) (EE_6 cA ad S P M 0) rfl) rfl rfl hl.1 rfl (lv_room (Nat.le_of_ble_eq_true rfl)) dX6_covers_73 ⟨Nat.le_of_ble_eq_true rfl, Nat.le_of_ble_eq_true rfl⟩) hS ?_
              clear hW hS; intro H locs hW hS
              refine lv_iadd hx hb dX6_covers_76 ?_
              refine lv_icmp_ge (tgt := 83) hx hb dX6_covers_77 (by decide) (fun hc => ?_) (fun hc => ?_)
              · replace hF := it_t hF hc
                refine lv_iinc (v := y5 + 1) (lv' := [(5, .int (y5 + 1)), (0, .ref (ad 6 0)), (1, .int c1), (2, .int c2), (3, .int c3), (4, .int c4)]) hx hb dX6_covers_83 hl (k := 5) rfl rfl (by decide) rfl ?_
                clear hl; intro ls hl
                refine lv_goto (tgt := 3) hx hb dX6_covers_86 (by decide) ?_
                exact ih (y5 + 1) _ _ _ hF hW hS (lv_sub hl [1, 2, 3, 4, 5, 0] rfl)
              · replace hF := it_f hF hc
                refine lv_iload hx hb dX6_covers_80 (lv_at hl 5 rfl) ?_
                have hq1 := Option.some.inj hF
                subst hq1
                exact e_i hx hb hr hlk hK hN hW hS dX6_covers_82

set_option maxHeartbeats 4000000 in
set_option maxRecDepth 100000 in
theorem w6_covers {p : Program} {l : Launch} {e : Env} {s : State} {m : MethodId} {args : Array Value} {below : List Frame} {meth : Method} {c : Code} (C : MC p s m args meth c cX6_covers (some .int) 6 RX6 wsX6_covers) {D : va_G} {cA : Nat → ClassId} {z : Nat} {ad : Nat → Nat → Nat} {N : TN} (hK : va_K D vwCl (tysW cA) s) (hN : NW s) {S : TS} {P : TP} {M : TS} (a1 : Int32) (a2 : Int32) (a3 : Int32) (a4 : Int32) {v : Int32} (hF : f6_covers M a1 a2 a3 a4 = some v)
    {H : Heap} {ls : Array Slot} (hW : Wd D cA z ad N S P M H) {locs : List Loc} (hS : va_S (fun q => z ≤ q) s.heap H locs) (hl : lv_has ls 6 [(0, .ref (ad 6 0)), (1, .int a1), (2, .int a2), (3, .int a3), (4, .int a4)]) : W p l e rm6_covers s m args below meth c H locs 0 0 (MQ below (Qi D cA z v (ad, N, S, P, M)) args s 0 0 (fun q => z ≤ q)) (F0 m 0 ls []) := by
  obtain ⟨hx, hb, hr, hml, hown, hts, hlk⟩ := id C
  unfold f6_covers at hF
  refine lv_iconst (v := (0 : Int32)) hx hb dX6_covers_0 (by decide) ?_
  refine lv_istore (lv' := [(5, .int (0 : Int32)), (0, .ref (ad 6 0)), (1, .int a1), (2, .int a2), (3, .int a3), (4, .int a4)]) hx hb dX6_covers_1 hl (by decide) rfl ?_
  clear hl; intro ls hl
  refine w6_covers_3 C hK hN a1 a2 a3 a4 (hE := ?_) FU (0 : Int32) _ _ _ hF hW hS (lv_sub hl [1, 2, 3, 4, 5, 0] rfl)
  intro  H locs ls hF hW hS hl
  refine lv_iconst (v := (-1 : Int32)) hx hb dX6_covers_89 (by decide) ?_
  have hq1 := Option.some.inj hF
  subst hq1
  exact e_i hx hb hr hlk hK hN hW hS dX6_covers_90

set_option maxHeartbeats 4000000 in
set_option maxRecDepth 100000 in
theorem c6_covers (l : Launch) {D : va_G} {cA : Nat → ClassId} {z : Nat} {ad : Nat → Nat → Nat} {N : TN} {S : TS} {P : TP} {M : TS} (a1 : Int32) (a2 : Int32) (a3 : Int32) (a4 : Int32) {v : Int32} (hF : f6_covers M a1 a2 a3 a4 = some v) : Met l yX6_covers wsX6_covers rm6_covers (va_Pc [.ref (ad 6 0), .int a1, .int a2, .int a3, .int a4] (Wl D cA z (ad, N, S, P, M))) (Qi D cA z v (ad, N, S, P, M)) 0 0 (fun q => z ≤ q) := by
  refine Met.ofW (cc := cX6_covers) (maxL := 6) (ret := (some .int)) (by decide) rfl ?_
  intro p e s m args below meth c s₁ B hml hv
  obtain ⟨rfl, hW, hK, hN⟩ := hv
  have hl := lv_entry ([.ref (ad 6 0), .int a1, .int a2, .int a3, .int a4]) (n := 6) (Nat.le_of_ble_eq_true rfl)
  rw [lg_entry_eq]
  generalize (lg_sl ([.ref (ad 6 0), .int a1, .int a2, .int a3, .int a4]) ++ List.replicate (6 - (lg_sl ([.ref (ad 6 0), .int a1, .int a2, .int a3, .int a4])).length) Slot.unset).toArray = ls at hl ⊢
  exact w6_covers ⟨B.exec, B.bytes, B.returns, hml, findClass_of_methodNamed B.named, atoms_spec (ws := wsX6_covers) B.pre, B.notSynchronized⟩ hK hN a1 a2 a3 a4 hF hW va_S.rf hl

-- 6 at
abbrev rm6_at : Room := { frames := 3, cells := 0, slots := 0, locals := 69 }
def f6_at (M : TS) (a1 : Int32) (a2 : Int32) (a3 : Int32) (a4 : Int32) : Option (Int32) :=
  (f6_isLane M a1 a2 a3).bind fun (v1 : Int32) =>
  if v1 = 0 then
  (some (-1 : Int32))
  else
  ((ix a1 12).bind fun (j3 : Nat) =>
  (f6_isIn a4 (0 : Int32) ((M 2200 j3) - (1 : Int32))).bind fun (v4 : Int32) =>
  if v4 = 0 then
  (some (-1 : Int32))
  else
  ((f6_openOf M a1).bind fun (v6 : Int32) =>
  if v6 = (-1 : Int32) then
  (some (-1 : Int32))
  else
  ((f6_openOf M a1).bind fun (v8 : Int32) =>
  (f6_covers M v8 a2 a3 a4).bind fun (v10 : Int32) =>
  some v10)))
set_option maxRecDepth 20000 in
theorem hi6_at_6 : ∀ w ∈ u_ws RX6 TX6 31, w ∈ wsX6_at := by decide +kernel
set_option maxHeartbeats 4000000 in
set_option maxRecDepth 100000 in
theorem w6_at {p : Program} {l : Launch} {e : Env} {s : State} {m : MethodId} {args : Array Value} {below : List Frame} {meth : Method} {c : Code} (C : MC p s m args meth c cX6_at (some .int) 5 RX6 wsX6_at) {D : va_G} {cA : Nat → ClassId} {z : Nat} {ad : Nat → Nat → Nat} {N : TN} (hK : va_K D vwCl (tysW cA) s) (hN : NW s) {S : TS} {P : TP} {M : TS} (a1 : Int32) (a2 : Int32) (a3 : Int32) (a4 : Int32) {v : Int32} (hF : f6_at M a1 a2 a3 a4 = some v)
    {H : Heap} {ls : Array Slot} (hW : Wd D cA z ad N S P M H) {locs : List Loc} (hS : va_S (fun q => z ≤ q) s.heap H locs) (hl : lv_has ls 5 [(0, .ref (ad 6 0)), (1, .int a1), (2, .int a2), (3, .int a3), (4, .int a4)]) : W p l e rm6_at s m args below meth c H locs 0 0 (MQ below (Qi D cA z v (ad, N, S, P, M)) args s 0 0 (fun q => z ≤ q)) (F0 m 0 ls []) := by
  obtain ⟨hx, hb, hr, hml, hown, hts, hlk⟩ := id C
  unfold f6_at at hF
  refine lv_aload_n hx hb dX6_at_0 rfl (lv_at hl 0 rfl) ?_
  refine lv_iload_n hx hb dX6_at_1 rfl (lv_at hl 1 rfl) ?_
  refine lv_iload_n hx hb dX6_at_2 rfl (lv_at hl 2 rfl) ?_
  refine lv_iload_n hx hb dX6_at_3 rfl (lv_at hl 3 rfl) ?_
  replace hF := ob hF
  obtain ⟨v1, q2, hF⟩ := hF
  refine k_i (va_runV (As := [.int a1, .int a2, .int a3]) (rest := []) ⟨hx, hb, hml, hown, hts⟩ (c6_isLane l a1 a2 a3 q2) (cwV 3 hts gX6_at_X6_isLane rfl rfl rfl (by decide +kernel) ⟨Nat.le_of_ble_eq_true rfl, Nat.le_of_ble_eq_true rfl⟩) (k_preV hW hK hN (hW.fx 6 rfl) (EE_6 cA ad S P M 0) rfl) rfl rfl hl.1 rfl (lv_room (Nat.le_of_ble_eq_true rfl)) dX6_at_4 ⟨Nat.le_of_ble_eq_true rfl, Nat.le_of_ble_eq_true rfl⟩) hS ?_
  clear hW hS; intro H locs hW hS
  refine lv_if_eq (tgt := 36) hx hb dX6_at_7 (by decide) (fun hc => ?_) (fun hc => ?_)
  · replace hF := it_t hF hc
    refine lv_iconst (v := (-1 : Int32)) hx hb dX6_at_36 (by decide) ?_
    have hq1 := Option.some.inj hF
    subst hq1
    exact e_i hx hb hr hlk hK hN hW hS dX6_at_37
  · replace hF := it_f hF hc
    refine lv_iload hx hb dX6_at_10 (lv_at hl 4 rfl) ?_
    refine lv_iconst (v := (0 : Int32)) hx hb dX6_at_12 (by decide) ?_
    refine lv_aload_n hx hb dX6_at_13 rfl (lv_at hl 0 rfl) ?_
    refine g6_2 hx hb hts hi6_at_6 hown hK hW (hts (.fieldLink RX6 16 RX6 "lengths" "[I") (by decide +kernel)) dX6_at_14 ?_
    refine lv_iload_n hx hb dX6_at_17 rfl (lv_at hl 1 rfl) ?_
    replace hF := ob hF
    obtain ⟨j3, ej3, hF⟩ := hF
    refine l22 hx hb hK hW ej3 dX6_at_18 ?_
    refine lv_iconst (v := (1 : Int32)) hx hb dX6_at_19 (by decide) ?_
    refine lv_isub hx hb dX6_at_20 ?_
    replace hF := ob hF
    obtain ⟨v4, q5, hF⟩ := hF
    refine k_i (va_runS (As := [.int a4, .int (0 : Int32), .int ((M 2200 j3) - (1 : Int32))]) (rest := []) ⟨hx, hb, hml, hown, hts⟩ (c6_isIn l a4 (0 : Int32) ((M 2200 j3) - (1 : Int32)) q5) (va_cwS 3 hts gX6_at_X6_isIn rfl rfl rfl (by decide +kernel) ⟨Nat.le_of_ble_eq_true rfl, Nat.le_of_ble_eq_true rfl⟩) (k_preS hW hK hN) rfl rfl hl.1 rfl (lv_room (Nat.le_of_ble_eq_true rfl)) dX6_at_21 ⟨Nat.le_of_ble_eq_true rfl, Nat.le_of_ble_eq_true rfl⟩) hS ?_
    clear hW hS; intro H locs hW hS
    refine lv_if_eq (tgt := 36) hx hb dX6_at_24 (by decide) (fun hc => ?_) (fun hc => ?_)
    · replace hF := it_t hF hc
      refine lv_iconst (v := (-1 : Int32)) hx hb dX6_at_36 (by decide) ?_
      have hq1 := Option.some.inj hF
      subst hq1
      exact e_i hx hb hr hlk hK hN hW hS dX6_at_37
    · replace hF := it_f hF hc
      refine lv_aload_n hx hb dX6_at_27 rfl (lv_at hl 0 rfl) ?_
      refine lv_iload_n hx hb dX6_at_28 rfl (lv_at hl 1 rfl) ?_
      replace hF := ob hF
      obtain ⟨v6, q7, hF⟩ := hF
      refine k_i (va_runV (As := [.int a1]) (rest := []) ⟨hx, hb, hml, hown, hts⟩ (c6_openOf l a1 q7) (cwV 1 hts gX6_at_X6_openOf rfl rfl rfl (by decide +kernel) ⟨Nat.le_of_ble_eq_true rfl, Nat.le_of_ble_eq_true rfl⟩) (k_preV hW hK hN (hW.fx 6 rfl) (EE_6 cA ad S P M 0) rfl) rfl rfl hl.1 rfl (lv_room (Nat.le_of_ble_eq_true rfl)) dX6_at_29 ⟨Nat.le_of_ble_eq_true rfl, Nat.le_of_ble_eq_true rfl⟩) hS ?_
      clear hW hS; intro H locs hW hS
      refine lv_iconst (v := (-1 : Int32)) hx hb dX6_at_32 (by decide) ?_
      refine lv_icmp_ne (tgt := 38) hx hb dX6_at_33 (by decide) (fun hc => ?_) (fun hc => ?_)
      · replace hF := it_f hF hc
        refine lv_aload_n hx hb dX6_at_38 rfl (lv_at hl 0 rfl) ?_
        refine lv_aload_n hx hb dX6_at_39 rfl (lv_at hl 0 rfl) ?_
        refine lv_iload_n hx hb dX6_at_40 rfl (lv_at hl 1 rfl) ?_
        replace hF := ob hF
        obtain ⟨v8, q9, hF⟩ := hF
        refine k_i (va_runV (As := [.int a1]) (rest := [.ref (ad 6 0)]) ⟨hx, hb, hml, hown, hts⟩ (c6_openOf l a1 q9) (cwV 1 hts gX6_at_X6_openOf rfl rfl rfl (by decide +kernel) ⟨Nat.le_of_ble_eq_true rfl, Nat.le_of_ble_eq_true rfl⟩) (k_preV hW hK hN (hW.fx 6 rfl) (EE_6 cA ad S P M 0) rfl) rfl rfl hl.1 rfl (lv_room (Nat.le_of_ble_eq_true rfl)) dX6_at_41 ⟨Nat.le_of_ble_eq_true rfl, Nat.le_of_ble_eq_true rfl⟩) hS ?_
        clear hW hS; intro H locs hW hS
        refine lv_iload_n hx hb dX6_at_44 rfl (lv_at hl 2 rfl) ?_
        refine lv_iload_n hx hb dX6_at_45 rfl (lv_at hl 3 rfl) ?_
        refine lv_iload hx hb dX6_at_46 (lv_at hl 4 rfl) ?_
        replace hF := ob hF
        obtain ⟨v10, q11, hF⟩ := hF
        refine k_i (va_runV (As := [.int v8, .int a2, .int a3, .int a4]) (rest := []) ⟨hx, hb, hml, hown, hts⟩ (c6_covers l v8 a2 a3 a4 q11) (cwV 4 hts gX6_at_X6_covers rfl rfl rfl (by decide +kernel) ⟨Nat.le_of_ble_eq_true rfl, Nat.le_of_ble_eq_true rfl⟩) (k_preV hW hK hN (hW.fx 6 rfl) (EE_6 cA ad S P M 0) rfl) rfl rfl hl.1 rfl (lv_room (Nat.le_of_ble_eq_true rfl)) dX6_at_48 ⟨Nat.le_of_ble_eq_true rfl, Nat.le_of_ble_eq_true rfl⟩) hS ?_
        clear hW hS; intro H locs hW hS
        have hq1 := Option.some.inj hF
        subst hq1
        exact e_i hx hb hr hlk hK hN hW hS dX6_at_51
      · replace hF := it_t hF hc
        refine lv_iconst (v := (-1 : Int32)) hx hb dX6_at_36 (by decide) ?_
        have hq1 := Option.some.inj hF
        subst hq1
        exact e_i hx hb hr hlk hK hN hW hS dX6_at_37

set_option maxHeartbeats 4000000 in
set_option maxRecDepth 100000 in
theorem c6_at (l : Launch) {D : va_G} {cA : Nat → ClassId} {z : Nat} {ad : Nat → Nat → Nat} {N : TN} {S : TS} {P : TP} {M : TS} (a1 : Int32) (a2 : Int32) (a3 : Int32) (a4 : Int32) {v : Int32} (hF : f6_at M a1 a2 a3 a4 = some v) : Met l yX6_at wsX6_at rm6_at (va_Pc [.ref (ad 6 0), .int a1, .int a2, .int a3, .int a4] (Wl D cA z (ad, N, S, P, M))) (Qi D cA z v (ad, N, S, P, M)) 0 0 (fun q => z ≤ q) := by
  refine Met.ofW (cc := cX6_at) (maxL := 5) (ret := (some .int)) (by decide) rfl ?_
  intro p e s m args below meth c s₁ B hml hv
  obtain ⟨rfl, hW, hK, hN⟩ := hv
  have hl := lv_entry ([.ref (ad 6 0), .int a1, .int a2, .int a3, .int a4]) (n := 5) (Nat.le_of_ble_eq_true rfl)
  rw [lg_entry_eq]
  generalize (lg_sl ([.ref (ad 6 0), .int a1, .int a2, .int a3, .int a4]) ++ List.replicate (5 - (lg_sl ([.ref (ad 6 0), .int a1, .int a2, .int a3, .int a4])).length) Slot.unset).toArray = ls at hl ⊢
  exact w6_at ⟨B.exec, B.bytes, B.returns, hml, findClass_of_methodNamed B.named, atoms_spec (ws := wsX6_at) B.pre, B.notSynchronized⟩ hK hN a1 a2 a3 a4 hF hW va_S.rf hl

-- 6 audit
abbrev rm6_audit : Room := { frames := 4, cells := 0, slots := 0, locals := 96 }
def f6_audit_54 (K : Int32 → Option (Int32 × TS)) (M : TS) (c1 : Int32) (c2 : Int32) (c3 : Int32) : Nat → Int32 → Int32 → Option (Int32 × TS)
  | 0, _, _ => none
  | n + 1, y4, y5 =>
    if y5 < 0 then
    (K y4)
    else
    ((f6_agrees M y5).bind fun (v2 : Int32) =>
    if v2 = 0 then
    (f6_audit_54 K M c1 c2 c3 n y5 (y5 + (-1)))
    else
    (f6_audit_54 K M c1 c2 c3 n y4 (y5 + (-1))))

def f6_audit (M : TS) (a1 : Int32) (a2 : Int32) (a3 : Int32) : Option (Int32 × TS) :=
  lt (lt (fun (M1 : TS) => (f6_audit_54 (fun (w4 : Int32) =>
  if a2 = 0 then
  (some (w4, M1))
  else
  ((f6_of M1 a1 a2).bind fun (v5 : Int32) =>
  (f6_put M1 a1 a2 (v5 ^^^ a3)).bind fun (M7 : TS) =>
  some (w4, M7))) M1 a1 a2 a3 FU (-1 : Int32) ((M1 623 0) - (1 : Int32)))) fun (K43 : TS → Option (Int32 × TS)) =>
  if a2 = 0 then
  (K43 M)
  else
  ((f6_of M a1 a2).bind fun (v9 : Int32) =>
  (f6_put M a1 a2 (v9 ^^^ a3)).bind fun (M11 : TS) =>
  K43 M11)) fun (K25 : Option (Int32 × TS)) =>
  if a2 = 0 then
  (K25)
  else
  ((f6_isIn a2 (4 : Int32) (11 : Int32)).bind fun (v13 : Int32) =>
  if v13 = 0 then
  (some ((-2 : Int32), M))
  else
  ((f6_isTicket M a1).bind fun (v15 : Int32) =>
  if v15 = 0 then
  (some ((-2 : Int32), M))
  else
  (K25)))
set_option maxRecDepth 20000 in
theorem hi6_audit_6 : ∀ w ∈ u_ws RX6 TX6 31, w ∈ wsX6_audit := by decide +kernel
set_option maxHeartbeats 4000000 in
set_option maxRecDepth 100000 in
theorem w6_audit_54 {p : Program} {l : Launch} {e : Env} {s : State} {m : MethodId} {args : Array Value} {below : List Frame} {meth : Method} {c : Code} (C : MC p s m args meth c cX6_audit (some .int) 6 RX6 wsX6_audit) {D : va_G} {cA : Nat → ClassId} {z : Nat} {ad : Nat → Nat → Nat} {N : TN} (hK : va_K D vwCl (tysW cA) s) (hN : NW s) {S : TS} {P : TP} {M : TS} (c1 : Int32) (c2 : Int32) (c3 : Int32) {v : Int32} {M' : TS} {K : Int32 → Option (Int32 × TS)}
    (hE : ∀ (e4 : Int32) (H : Heap) (locs : List Loc) (ls : Array Slot), K e4 = some (v, M') → Wd D cA z ad N S P M H → va_S (fun q => z ≤ q) s.heap H locs → lv_has ls 6 [(0, .ref (ad 6 0)), (1, .int c1), (2, .int c2), (3, .int c3), (4, .int e4)] → W p l e rm6_audit s m args below meth c H locs 0 0 (MQ below (Qi D cA z v (ad, N, S, P, M')) args s 0 0 (fun q => z ≤ q)) (F0 m 78 ls [])) :
    ∀ (n : Nat) (y4 : Int32) (y5 : Int32) (H : Heap) (locs : List Loc) (ls : Array Slot), f6_audit_54 K M c1 c2 c3 n y4 y5 = some (v, M') → Wd D cA z ad N S P M H → va_S (fun q => z ≤ q) s.heap H locs → lv_has ls 6 [(0, .ref (ad 6 0)), (1, .int c1), (2, .int c2), (3, .int c3), (4, .int y4), (5, .int y5)] → W p l e rm6_audit s m args below meth c H locs 0 0 (MQ below (Qi D cA z v (ad, N, S, P, M')) args s 0 0 (fun q => z ≤ q)) (F0 m 54 ls []) := by
  obtain ⟨hx, hb, hr, hml, hown, hts, hlk⟩ := id C
  intro n
  induction n with
  | zero => intro y4 y5 H locs ls hF; cases hF
  | succ n ih =>
    intro y4 y5 H locs ls hF hW hS hl
    rw [f6_audit_54] at hF
    refine lv_iload hx hb dX6_audit_54 (lv_at hl 5 rfl) ?_
    refine lv_if_lt (tgt := 78) hx hb dX6_audit_56 (by decide) (fun hc => ?_) (fun hc => ?_)
    · replace hF := it_t hF hc
      exact hE y4 _ _ _ hF hW hS (lv_sub hl [0, 1, 2, 3, 4] rfl)
    · replace hF := it_f hF hc
      refine lv_aload_n hx hb dX6_audit_59 rfl (lv_at hl 0 rfl) ?_
      refine lv_iload hx hb dX6_audit_60 (lv_at hl 5 rfl) ?_
      replace hF := ob hF
      obtain ⟨v2, q3, hF⟩ := hF
      refine k_i (va_runV (As := [.int y5]) (rest := []) ⟨hx, hb, hml, hown, hts⟩ (c6_agrees l y5 q3) (cwV 1 hts gX6_audit_X6_agrees rfl rfl rfl (by decide +kernel) ⟨Nat.le_of_ble_eq_true rfl, Nat.le_of_ble_eq_true rfl⟩) (k_preV hW hK hN (hW.fx 6 rfl) (EE_6 cA ad S P M 0) rfl) rfl rfl hl.1 rfl (lv_room (Nat.le_of_ble_eq_true rfl)) dX6_audit_62 ⟨Nat.le_of_ble_eq_true rfl, Nat.le_of_ble_eq_true rfl⟩) hS ?_
      clear hW hS; intro H locs hW hS
      refine lv_if_ne (tgt := 72) hx hb dX6_audit_65 (by decide) (fun hc => ?_) (fun hc => ?_)
      · replace hF := it_f hF hc
        refine lv_iinc (v := y5 + (-1)) (lv' := [(5, .int (y5 + (-1))), (0, .ref (ad 6 0)), (1, .int c1), (2, .int c2), (3, .int c3), (4, .int y4)]) hx hb dX6_audit_72 hl (k := 5) rfl rfl (by decide) rfl ?_
        clear hl; intro ls hl
        refine lv_goto (tgt := 54) hx hb dX6_audit_75 (by decide) ?_
        exact ih y4 (y5 + (-1)) _ _ _ hF hW hS (lv_sub hl [1, 2, 3, 4, 5, 0] rfl)
      · replace hF := it_t hF hc
        refine lv_iload hx hb dX6_audit_68 (lv_at hl 5 rfl) ?_
        refine lv_istore (lv' := [(4, .int y5), (0, .ref (ad 6 0)), (1, .int c1), (2, .int c2), (3, .int c3), (5, .int y5)]) hx hb dX6_audit_70 hl (by decide) rfl ?_
        clear hl; intro ls hl
        refine lv_iinc (v := y5 + (-1)) (lv' := [(5, .int (y5 + (-1))), (4, .int y5), (0, .ref (ad 6 0)), (1, .int c1), (2, .int c2), (3, .int c3)]) hx hb dX6_audit_72 hl (k := 5) rfl rfl (by decide) rfl ?_
        clear hl; intro ls hl
        refine lv_goto (tgt := 54) hx hb dX6_audit_75 (by decide) ?_
        exact ih y5 (y5 + (-1)) _ _ _ hF hW hS (lv_sub hl [2, 3, 4, 5, 1, 0] rfl)

set_option maxHeartbeats 4000000 in
set_option maxRecDepth 100000 in
theorem w6_audit {p : Program} {l : Launch} {e : Env} {s : State} {m : MethodId} {args : Array Value} {below : List Frame} {meth : Method} {c : Code} (C : MC p s m args meth c cX6_audit (some .int) 6 RX6 wsX6_audit) {D : va_G} {cA : Nat → ClassId} {z : Nat} {ad : Nat → Nat → Nat} {N : TN} (hK : va_K D vwCl (tysW cA) s) (hN : NW s) {S : TS} {P : TP} {M : TS} (a1 : Int32) (a2 : Int32) (a3 : Int32) {v : Int32} {M' : TS} (hF : f6_audit M a1 a2 a3 = some (v, M'))
    {H : Heap} {ls : Array Slot} (hW : Wd D cA z ad N S P M H) {locs : List Loc} (hS : va_S (fun q => z ≤ q) s.heap H locs) (hl : lv_has ls 6 [(0, .ref (ad 6 0)), (1, .int a1), (2, .int a2), (3, .int a3)]) : W p l e rm6_audit s m args below meth c H locs 0 0 (MQ below (Qi D cA z v (ad, N, S, P, M')) args s 0 0 (fun q => z ≤ q)) (F0 m 0 ls []) := by
  obtain ⟨hx, hb, hr, hml, hown, hts, hlk⟩ := id C
  unfold f6_audit at hF
  refine lv_iload_n hx hb dX6_audit_0 rfl (lv_at hl 2 rfl) ?_
  replace hF := lt_ex hF
  obtain ⟨K25, eK25, hF⟩ := hF
  have hK25 : ∀ (H : Heap) (locs : List Loc) (ls : Array Slot), K25 = some (v, M') → Wd D cA z ad N S P M H → va_S (fun q => z ≤ q) s.heap H locs → lv_has ls 6 [(0, .ref (ad 6 0)), (1, .int a1), (2, .int a2), (3, .int a3)] → W p l e rm6_audit s m args below meth c H locs 0 0 (MQ below (Qi D cA z v (ad, N, S, P, M')) args s 0 0 (fun q => z ≤ q)) (F0 m 25 ls []) := by
    intro H locs ls hF hW hS hl
    subst eK25
    refine lv_iload_n hx hb dX6_audit_25 rfl (lv_at hl 2 rfl) ?_
    replace hF := lt_ex hF
    obtain ⟨K43, eK43, hF⟩ := hF
    have hK43 : ∀ (M1 : TS) (H : Heap) (locs : List Loc) (ls : Array Slot), K43 M1 = some (v, M') → Wd D cA z ad N S P M1 H → va_S (fun q => z ≤ q) s.heap H locs → lv_has ls 6 [(0, .ref (ad 6 0)), (1, .int a1), (2, .int a2), (3, .int a3)] → W p l e rm6_audit s m args below meth c H locs 0 0 (MQ below (Qi D cA z v (ad, N, S, P, M')) args s 0 0 (fun q => z ≤ q)) (F0 m 43 ls []) := by
      intro M1 H locs ls hF hW hS hl
      subst eK43
      refine lv_iconst (v := (-1 : Int32)) hx hb dX6_audit_43 (by decide) ?_
      refine lv_istore (lv' := [(4, .int (-1 : Int32)), (0, .ref (ad 6 0)), (1, .int a1), (2, .int a2), (3, .int a3)]) hx hb dX6_audit_44 hl (by decide) rfl ?_
      clear hl; intro ls hl
      refine lv_aload_n hx hb dX6_audit_46 rfl (lv_at hl 1 rfl) ?_
      refine g6_23 hx hb hts hi6_audit_6 hown hK hW (hts (.fieldLink RX6 74 RX6 "tickets" "I") (by decide +kernel)) dX6_audit_47 ?_
      refine lv_iconst (v := (1 : Int32)) hx hb dX6_audit_50 (by decide) ?_
      refine lv_isub hx hb dX6_audit_51 ?_
      refine lv_istore (lv' := [(5, .int ((M1 623 0) - (1 : Int32))), (4, .int (-1 : Int32)), (0, .ref (ad 6 0)), (1, .int a1), (2, .int a2), (3, .int a3)]) hx hb dX6_audit_52 hl (by decide) rfl ?_
      clear hl; intro ls hl
      refine w6_audit_54 C hK hN a1 a2 a3 (hE := ?_) FU (-1 : Int32) ((M1 623 0) - (1 : Int32)) _ _ _ hF hW hS (lv_sub hl [2, 3, 4, 5, 1, 0] rfl)
      intro w4 H locs ls hF hW hS hl
      refine lv_iload_n hx hb dX6_audit_78 rfl (lv_at hl 2 rfl) ?_
      refine lv_if_eq (tgt := 96) hx hb dX6_audit_79 (by decide) (fun hc => ?_) (fun hc => ?_)
      · replace hF := it_t hF hc
        refine lv_iload hx hb dX6_audit_96 (lv_at hl 4 rfl) ?_
        obtain ⟨hq1, hq2⟩ := Prod.mk.inj (Option.some.inj hF)
        subst hq1
        subst hq2
        exact e_i hx hb hr hlk hK hN hW hS dX6_audit_98
      · replace hF := it_f hF hc
        refine lv_aload_n hx hb dX6_audit_82 rfl (lv_at hl 0 rfl) ?_
        refine lv_iload_n hx hb dX6_audit_83 rfl (lv_at hl 1 rfl) ?_
        refine lv_iload_n hx hb dX6_audit_84 rfl (lv_at hl 2 rfl) ?_
        refine lv_aload_n hx hb dX6_audit_85 rfl (lv_at hl 0 rfl) ?_
        refine lv_iload_n hx hb dX6_audit_86 rfl (lv_at hl 1 rfl) ?_
        refine lv_iload_n hx hb dX6_audit_87 rfl (lv_at hl 2 rfl) ?_
        replace hF := ob hF
        obtain ⟨v5, q6, hF⟩ := hF
        refine k_i (va_runV (As := [.int a1, .int a2]) (rest := [.int a2, .int a1, .ref (ad 6 0)]) ⟨hx, hb, hml, hown, hts⟩ (c6_of l a1 a2 q6) (cwV 2 hts gX6_audit_X6_of rfl rfl rfl (by decide +kernel) ⟨Nat.le_of_ble_eq_true rfl, Nat.le_of_ble_eq_true rfl⟩) (k_preV hW hK hN (hW.fx 6 rfl) (EE_6 cA ad S P M1 0) rfl) rfl rfl hl.1 rfl (lv_room (Nat.le_of_ble_eq_true rfl)) dX6_audit_88 ⟨Nat.le_of_ble_eq_true rfl, Nat.le_of_ble_eq_true rfl⟩) hS ?_
        clear hW hS; intro H locs hW hS
        refine lv_iload_n hx hb dX6_audit_91 rfl (lv_at hl 3 rfl) ?_
        refine lv_ixor hx hb dX6_audit_92 ?_
        replace hF := ob hF
        obtain ⟨M7, q8, hF⟩ := hF
        refine k_v (va_runV (As := [.int a1, .int a2, .int (v5 ^^^ a3)]) (rest := []) ⟨hx, hb, hml, hown, hts⟩ (c6_put l a1 a2 (v5 ^^^ a3) q8) (cwV 3 hts gX6_audit_X6_put rfl rfl rfl (by decide +kernel) ⟨Nat.le_of_ble_eq_true rfl, Nat.le_of_ble_eq_true rfl⟩) (k_preV hW hK hN (hW.fx 6 rfl) (EE_6 cA ad S P M1 0) rfl) rfl rfl hl.1 rfl (lv_room (Nat.le_of_ble_eq_true rfl)) dX6_audit_93 ⟨Nat.le_of_ble_eq_true rfl, Nat.le_of_ble_eq_true rfl⟩) hS ?_
        clear hW hS; intro H locs hW hS
        refine lv_iload hx hb dX6_audit_96 (lv_at hl 4 rfl) ?_
        obtain ⟨hq1, hq2⟩ := Prod.mk.inj (Option.some.inj hF)
        subst hq1
        subst hq2
        exact e_i hx hb hr hlk hK hN hW hS dX6_audit_98
    clear eK43
    refine lv_if_eq (tgt := 43) hx hb dX6_audit_26 (by decide) (fun hc => ?_) (fun hc => ?_)
    · replace hF := it_t hF hc
      exact hK43 M _ _ _ hF hW hS (lv_sub hl [0, 1, 2, 3] rfl)
    · replace hF := it_f hF hc
      refine lv_aload_n hx hb dX6_audit_29 rfl (lv_at hl 0 rfl) ?_
      refine lv_iload_n hx hb dX6_audit_30 rfl (lv_at hl 1 rfl) ?_
      refine lv_iload_n hx hb dX6_audit_31 rfl (lv_at hl 2 rfl) ?_
      refine lv_aload_n hx hb dX6_audit_32 rfl (lv_at hl 0 rfl) ?_
      refine lv_iload_n hx hb dX6_audit_33 rfl (lv_at hl 1 rfl) ?_
      refine lv_iload_n hx hb dX6_audit_34 rfl (lv_at hl 2 rfl) ?_
      replace hF := ob hF
      obtain ⟨v9, q10, hF⟩ := hF
      refine k_i (va_runV (As := [.int a1, .int a2]) (rest := [.int a2, .int a1, .ref (ad 6 0)]) ⟨hx, hb, hml, hown, hts⟩ (c6_of l a1 a2 q10) (cwV 2 hts gX6_audit_X6_of rfl rfl rfl (by decide +kernel) ⟨Nat.le_of_ble_eq_true rfl, Nat.le_of_ble_eq_true rfl⟩) (k_preV hW hK hN (hW.fx 6 rfl) (EE_6 cA ad S P M 0) rfl) rfl rfl hl.1 rfl (lv_room (Nat.le_of_ble_eq_true rfl)) dX6_audit_35 ⟨Nat.le_of_ble_eq_true rfl, Nat.le_of_ble_eq_true rfl⟩) hS ?_
      clear hW hS; intro H locs hW hS
      refine lv_iload_n hx hb dX6_audit_38 rfl (lv_at hl 3 rfl) ?_
      refine lv_ixor hx hb dX6_audit_39 ?_
      replace hF := ob hF
      obtain ⟨M11, q12, hF⟩ := hF
      refine k_v (va_runV (As := [.int a1, .int a2, .int (v9 ^^^ a3)]) (rest := []) ⟨hx, hb, hml, hown, hts⟩ (c6_put l a1 a2 (v9 ^^^ a3) q12) (cwV 3 hts gX6_audit_X6_put rfl rfl rfl (by decide +kernel) ⟨Nat.le_of_ble_eq_true rfl, Nat.le_of_ble_eq_true rfl⟩) (k_preV hW hK hN (hW.fx 6 rfl) (EE_6 cA ad S P M 0) rfl) rfl rfl hl.1 rfl (lv_room (Nat.le_of_ble_eq_true rfl)) dX6_audit_40 ⟨Nat.le_of_ble_eq_true rfl, Nat.le_of_ble_eq_true rfl⟩) hS ?_
      clear hW hS; intro H locs hW hS
      exact hK43 M11 _ _ _ hF hW hS (lv_sub hl [0, 1, 2, 3] rfl)
  clear eK25
  refine lv_if_eq (tgt := 25) hx hb dX6_audit_1 (by decide) (fun hc => ?_) (fun hc => ?_)
  · replace hF := it_t hF hc
    exact hK25 _ _ _ hF hW hS (lv_sub hl [0, 1, 2, 3] rfl)
  · replace hF := it_f hF hc
    refine lv_iload_n hx hb dX6_audit_4 rfl (lv_at hl 2 rfl) ?_
    refine lv_iconst (v := (4 : Int32)) hx hb dX6_audit_5 (by decide) ?_
    refine lv_bipush (v := (11 : Int32)) hx hb dX6_audit_6 (by decide) ?_
    replace hF := ob hF
    obtain ⟨v13, q14, hF⟩ := hF
    refine k_i (va_runS (As := [.int a2, .int (4 : Int32), .int (11 : Int32)]) (rest := []) ⟨hx, hb, hml, hown, hts⟩ (c6_isIn l a2 (4 : Int32) (11 : Int32) q14) (va_cwS 3 hts gX6_audit_X6_isIn rfl rfl rfl (by decide +kernel) ⟨Nat.le_of_ble_eq_true rfl, Nat.le_of_ble_eq_true rfl⟩) (k_preS hW hK hN) rfl rfl hl.1 rfl (lv_room (Nat.le_of_ble_eq_true rfl)) dX6_audit_8 ⟨Nat.le_of_ble_eq_true rfl, Nat.le_of_ble_eq_true rfl⟩) hS ?_
    clear hW hS; intro H locs hW hS
    refine lv_if_eq (tgt := 22) hx hb dX6_audit_11 (by decide) (fun hc => ?_) (fun hc => ?_)
    · replace hF := it_t hF hc
      refine lv_bipush (v := (-2 : Int32)) hx hb dX6_audit_22 (by decide) ?_
      obtain ⟨hq1, hq2⟩ := Prod.mk.inj (Option.some.inj hF)
      subst hq1
      subst hq2
      exact e_i hx hb hr hlk hK hN hW hS dX6_audit_24
    · replace hF := it_f hF hc
      refine lv_aload_n hx hb dX6_audit_14 rfl (lv_at hl 0 rfl) ?_
      refine lv_iload_n hx hb dX6_audit_15 rfl (lv_at hl 1 rfl) ?_
      replace hF := ob hF
      obtain ⟨v15, q16, hF⟩ := hF
      refine k_i (va_runV (As := [.int a1]) (rest := []) ⟨hx, hb, hml, hown, hts⟩ (c6_isTicket l a1 q16) (cwV 1 hts gX6_audit_X6_isTicket rfl rfl rfl (by decide +kernel) ⟨Nat.le_of_ble_eq_true rfl, Nat.le_of_ble_eq_true rfl⟩) (k_preV hW hK hN (hW.fx 6 rfl) (EE_6 cA ad S P M 0) rfl) rfl rfl hl.1 rfl (lv_room (Nat.le_of_ble_eq_true rfl)) dX6_audit_16 ⟨Nat.le_of_ble_eq_true rfl, Nat.le_of_ble_eq_true rfl⟩) hS ?_
      clear hW hS; intro H locs hW hS
      refine lv_if_ne (tgt := 25) hx hb dX6_audit_19 (by decide) (fun hc => ?_) (fun hc => ?_)
      · replace hF := it_f hF hc
        exact hK25 _ _ _ hF hW hS (lv_sub hl [0, 1, 2, 3] rfl)
      · replace hF := it_t hF hc
        refine lv_bipush (v := (-2 : Int32)) hx hb dX6_audit_22 (by decide) ?_
        obtain ⟨hq1, hq2⟩ := Prod.mk.inj (Option.some.inj hF)
        subst hq1
        subst hq2
        exact e_i hx hb hr hlk hK hN hW hS dX6_audit_24

set_option maxHeartbeats 4000000 in
set_option maxRecDepth 100000 in
theorem c6_audit (l : Launch) {D : va_G} {cA : Nat → ClassId} {z : Nat} {ad : Nat → Nat → Nat} {N : TN} {S : TS} {P : TP} {M : TS} (a1 : Int32) (a2 : Int32) (a3 : Int32) {v : Int32} {M' : TS} (hF : f6_audit M a1 a2 a3 = some (v, M')) : Met l yX6_audit wsX6_audit rm6_audit (va_Pc [.ref (ad 6 0), .int a1, .int a2, .int a3] (Wl D cA z (ad, N, S, P, M))) (Qi D cA z v (ad, N, S, P, M')) 0 0 (fun q => z ≤ q) := by
  refine Met.ofW (cc := cX6_audit) (maxL := 6) (ret := (some .int)) (by decide) rfl ?_
  intro p e s m args below meth c s₁ B hml hv
  obtain ⟨rfl, hW, hK, hN⟩ := hv
  have hl := lv_entry ([.ref (ad 6 0), .int a1, .int a2, .int a3]) (n := 6) (Nat.le_of_ble_eq_true rfl)
  rw [lg_entry_eq]
  generalize (lg_sl ([.ref (ad 6 0), .int a1, .int a2, .int a3]) ++ List.replicate (6 - (lg_sl ([.ref (ad 6 0), .int a1, .int a2, .int a3])).length) Slot.unset).toArray = ls at hl ⊢
  exact w6_audit ⟨B.exec, B.bytes, B.returns, hml, findClass_of_methodNamed B.named, atoms_spec (ws := wsX6_audit) B.pre, B.notSynchronized⟩ hK hN a1 a2 a3 hF hW va_S.rf hl

-- 6 mayStand
abbrev rm6_mayStand : Room := { frames := 2, cells := 0, slots := 0, locals := 44 }
def f6_mayStand_73 (K : Option (Int32)) (M : TS) (c1 : Int32) (c3 : Int32) (c6 : Int32) : Nat → Int32 → Option (Int32)
  | 0, _ => none
  | n + 1, y7 =>
    if (M 623 0) ≤ y7 then
    (K)
    else
    ((f6_isAboard M y7 c1).bind fun (v3 : Int32) =>
    if v3 = 0 then
    (f6_mayStand_73 K M c1 c3 c6 n (y7 + 1))
    else
    (lt (if c3 = (1 : Int32) then
    ((f6_of M y7 (6 : Int32)).bind fun (v5 : Int32) =>
    if v5 = 0 then
    ((f6_of M y7 (7 : Int32)).bind fun (v7 : Int32) =>
    if (2 : Int32) ≤ v7 then
    (f6_mayStand_73 K M c1 c3 c6 n (y7 + 1))
    else
    ((f6_of M y7 (2 : Int32)).bind fun (v9 : Int32) =>
    if v9 = (2 : Int32) then
    (some (0 : Int32))
    else
    (f6_mayStand_73 K M c1 c3 c6 n (y7 + 1))))
    else
    (f6_mayStand_73 K M c1 c3 c6 n (y7 + 1)))
    else
    (f6_mayStand_73 K M c1 c3 c6 n (y7 + 1))) fun (K114 : Option (Int32)) =>
    if c6 = 0 then
    (K114)
    else
    ((f6_of M y7 (6 : Int32)).bind fun (v11 : Int32) =>
    if v11 = (1 : Int32) then
    (some (0 : Int32))
    else
    (K114))))

def f6_mayStand (M : TS) (a1 : Int32) (a2 : Int32) (a3 : Int32) (a4 : Int32) (a5 : Int32) : Option (Int32) :=
  lt (lt ((ix a2 12).bind fun (j1 : Nat) =>
  if (M 2300 j1) = 0 then
  (some (1 : Int32))
  else
  (if a1 = (-1 : Int32) then
  (some (1 : Int32))
  else
  (lt (fun (k2 : Int32) => (lt (f6_mayStand_73 (some (1 : Int32)) M a1 a3 k2 FU (0 : Int32)) fun (K70 : Option (Int32)) =>
  if k2 = 0 then
  (if a3 = (1 : Int32) then
  (K70)
  else
  (some (1 : Int32)))
  else
  (K70))) fun (K56 : Int32 → Option (Int32)) =>
  if a5 = (2 : Int32) then
  (if (2 : Int32) ≤ a4 then
  (K56 (0 : Int32))
  else
  (K56 (1 : Int32)))
  else
  (K56 (0 : Int32))))) fun (K23 : Option (Int32)) =>
  if a5 = (1 : Int32) then
  (if a3 ≤ (1 : Int32) then
  (K23)
  else
  (some (0 : Int32)))
  else
  (K23)) fun (K10 : Option (Int32)) =>
  if a5 = (2 : Int32) then
  (if 0 < a3 then
  (some (0 : Int32))
  else
  (K10))
  else
  (K10)
set_option maxRecDepth 20000 in
theorem hi6_mayStand_6 : ∀ w ∈ u_ws RX6 TX6 31, w ∈ wsX6_mayStand := by decide +kernel
set_option maxHeartbeats 4000000 in
set_option maxRecDepth 100000 in
theorem w6_mayStand_73 {p : Program} {l : Launch} {e : Env} {s : State} {m : MethodId} {args : Array Value} {below : List Frame} {meth : Method} {c : Code} (C : MC p s m args meth c cX6_mayStand (some .boolean) 8 RX6 wsX6_mayStand) {D : va_G} {cA : Nat → ClassId} {z : Nat} {ad : Nat → Nat → Nat} {N : TN} (hK : va_K D vwCl (tysW cA) s) (hN : NW s) {S : TS} {P : TP} {M : TS} (c1 : Int32) (c3 : Int32) (c6 : Int32) {v : Int32} {K : Option (Int32)}
    (hE : ∀ (H : Heap) (locs : List Loc) (ls : Array Slot), K = some v → Wd D cA z ad N S P M H → va_S (fun q => z ≤ q) s.heap H locs → lv_has ls 8 [] → W p l e rm6_mayStand s m args below meth c H locs 0 0 (MQ below (Qi D cA z v (ad, N, S, P, M)) args s 0 0 (fun q => z ≤ q)) (F0 m 161 ls [])) :
    ∀ (n : Nat) (y7 : Int32) (H : Heap) (locs : List Loc) (ls : Array Slot), f6_mayStand_73 K M c1 c3 c6 n y7 = some v → Wd D cA z ad N S P M H → va_S (fun q => z ≤ q) s.heap H locs → lv_has ls 8 [(0, .ref (ad 6 0)), (1, .int c1), (3, .int c3), (6, .int c6), (7, .int y7)] → W p l e rm6_mayStand s m args below meth c H locs 0 0 (MQ below (Qi D cA z v (ad, N, S, P, M)) args s 0 0 (fun q => z ≤ q)) (F0 m 73 ls []) := by
  obtain ⟨hx, hb, hr, hml, hown, hts, hlk⟩ := id C
  intro n
  induction n with
  | zero => intro y7 H locs ls hF; cases hF
  | succ n ih =>
    intro y7 H locs ls hF hW hS hl
    rw [f6_mayStand_73] at hF
    refine lv_iload hx hb dX6_mayStand_73 (lv_at hl 4 rfl) ?_
    refine lv_aload_n hx hb dX6_mayStand_75 rfl (lv_at hl 0 rfl) ?_
    refine g6_23 hx hb hts hi6_mayStand_6 hown hK hW (hts (.fieldLink RX6 74 RX6 "tickets" "I") (by decide +kernel)) dX6_mayStand_76 ?_
    refine lv_icmp_ge (tgt := 161) hx hb dX6_mayStand_79 (by decide) (fun hc => ?_) (fun hc => ?_)
    · replace hF := it_t hF hc
      exact hE _ _ _ hF hW hS (lv_sub hl [] rfl)
    · replace hF := it_f hF hc
      refine lv_aload_n hx hb dX6_mayStand_82 rfl (lv_at hl 0 rfl) ?_
      refine lv_iload hx hb dX6_mayStand_83 (lv_at hl 4 rfl) ?_
      refine lv_iload_n hx hb dX6_mayStand_85 rfl (lv_at hl 1 rfl) ?_
      replace hF := ob hF
      obtain ⟨v3, q4, hF⟩ := hF
      refine k_i (va_runV (As := [.int y7, .int c1]) (rest := []) ⟨hx, hb, hml, hown, hts⟩ (c6_isAboard l y7 c1 q4) (cwV 2 hts gX6_mayStand_X6_isAboard rfl rfl rfl (by decide +kernel) ⟨Nat.le_of_ble_eq_true rfl, Nat.le_of_ble_eq_true rfl⟩) (k_preV hW hK hN (hW.fx 6 rfl) (EE_6 cA ad S P M 0) rfl) rfl rfl hl.1 rfl (lv_room (Nat.le_of_ble_eq_true rfl)) dX6_mayStand_86 ⟨Nat.le_of_ble_eq_true rfl, Nat.le_of_ble_eq_true rfl⟩) hS ?_
      clear hW hS; intro H locs hW hS
      refine lv_if_ne (tgt := 95) hx hb dX6_mayStand_89 (by decide) (fun hc => ?_) (fun hc => ?_)
      · replace hF := it_f hF hc
        refine lv_iload hx hb dX6_mayStand_95 (lv_at hl 3 rfl) ?_
        replace hF := lt_ex hF
        obtain ⟨K114, eK114, hF⟩ := hF
        have hK114 : ∀ (H : Heap) (locs : List Loc) (ls : Array Slot), K114 = some v → Wd D cA z ad N S P M H → va_S (fun q => z ≤ q) s.heap H locs → lv_has ls 8 [(0, .ref (ad 6 0)), (1, .int c1), (3, .int c3), (6, .int c6), (7, .int y7)] → W p l e rm6_mayStand s m args below meth c H locs 0 0 (MQ below (Qi D cA z v (ad, N, S, P, M)) args s 0 0 (fun q => z ≤ q)) (F0 m 114 ls []) := by
          intro H locs ls hF hW hS hl
          subst eK114
          refine lv_iload_n hx hb dX6_mayStand_114 rfl (lv_at hl 2 rfl) ?_
          refine lv_iconst (v := (1 : Int32)) hx hb dX6_mayStand_115 (by decide) ?_
          refine lv_icmp_ne (tgt := 155) hx hb dX6_mayStand_116 (by decide) (fun hc => ?_) (fun hc => ?_)
          · replace hF := it_f hF hc
            refine lv_iinc (v := y7 + 1) (lv' := [(7, .int (y7 + 1)), (0, .ref (ad 6 0)), (1, .int c1), (3, .int c3), (6, .int c6)]) hx hb dX6_mayStand_155 hl (k := 4) rfl rfl (by decide) rfl ?_
            clear hl; intro ls hl
            refine lv_goto (tgt := 73) hx hb dX6_mayStand_158 (by decide) ?_
            exact ih (y7 + 1) _ _ _ hF hW hS (lv_sub hl [1, 2, 3, 4, 0] rfl)
          · replace hF := it_t hF hc
            refine lv_aload_n hx hb dX6_mayStand_119 rfl (lv_at hl 0 rfl) ?_
            refine lv_iload hx hb dX6_mayStand_120 (lv_at hl 4 rfl) ?_
            refine lv_bipush (v := (6 : Int32)) hx hb dX6_mayStand_122 (by decide) ?_
            replace hF := ob hF
            obtain ⟨v5, q6, hF⟩ := hF
            refine k_i (va_runV (As := [.int y7, .int (6 : Int32)]) (rest := []) ⟨hx, hb, hml, hown, hts⟩ (c6_of l y7 (6 : Int32) q6) (cwV 2 hts gX6_mayStand_X6_of rfl rfl rfl (by decide +kernel) ⟨Nat.le_of_ble_eq_true rfl, Nat.le_of_ble_eq_true rfl⟩) (k_preV hW hK hN (hW.fx 6 rfl) (EE_6 cA ad S P M 0) rfl) rfl rfl hl.1 rfl (lv_room (Nat.le_of_ble_eq_true rfl)) dX6_mayStand_124 ⟨Nat.le_of_ble_eq_true rfl, Nat.le_of_ble_eq_true rfl⟩) hS ?_
            clear hW hS; intro H locs hW hS
            refine lv_if_ne (tgt := 155) hx hb dX6_mayStand_127 (by decide) (fun hc => ?_) (fun hc => ?_)
            · replace hF := it_f hF hc
              refine lv_iinc (v := y7 + 1) (lv' := [(7, .int (y7 + 1)), (0, .ref (ad 6 0)), (1, .int c1), (3, .int c3), (6, .int c6)]) hx hb dX6_mayStand_155 hl (k := 4) rfl rfl (by decide) rfl ?_
              clear hl; intro ls hl
              refine lv_goto (tgt := 73) hx hb dX6_mayStand_158 (by decide) ?_
              exact ih (y7 + 1) _ _ _ hF hW hS (lv_sub hl [1, 2, 3, 4, 0] rfl)
            · replace hF := it_t hF hc
              refine lv_aload_n hx hb dX6_mayStand_130 rfl (lv_at hl 0 rfl) ?_
              refine lv_iload hx hb dX6_mayStand_131 (lv_at hl 4 rfl) ?_
              refine lv_bipush (v := (7 : Int32)) hx hb dX6_mayStand_133 (by decide) ?_
              replace hF := ob hF
              obtain ⟨v7, q8, hF⟩ := hF
              refine k_i (va_runV (As := [.int y7, .int (7 : Int32)]) (rest := []) ⟨hx, hb, hml, hown, hts⟩ (c6_of l y7 (7 : Int32) q8) (cwV 2 hts gX6_mayStand_X6_of rfl rfl rfl (by decide +kernel) ⟨Nat.le_of_ble_eq_true rfl, Nat.le_of_ble_eq_true rfl⟩) (k_preV hW hK hN (hW.fx 6 rfl) (EE_6 cA ad S P M 0) rfl) rfl rfl hl.1 rfl (lv_room (Nat.le_of_ble_eq_true rfl)) dX6_mayStand_135 ⟨Nat.le_of_ble_eq_true rfl, Nat.le_of_ble_eq_true rfl⟩) hS ?_
              clear hW hS; intro H locs hW hS
              refine lv_iconst (v := (2 : Int32)) hx hb dX6_mayStand_138 (by decide) ?_
              refine lv_icmp_ge (tgt := 155) hx hb dX6_mayStand_139 (by decide) (fun hc => ?_) (fun hc => ?_)
              · replace hF := it_t hF hc
                refine lv_iinc (v := y7 + 1) (lv' := [(7, .int (y7 + 1)), (0, .ref (ad 6 0)), (1, .int c1), (3, .int c3), (6, .int c6)]) hx hb dX6_mayStand_155 hl (k := 4) rfl rfl (by decide) rfl ?_
                clear hl; intro ls hl
                refine lv_goto (tgt := 73) hx hb dX6_mayStand_158 (by decide) ?_
                exact ih (y7 + 1) _ _ _ hF hW hS (lv_sub hl [1, 2, 3, 4, 0] rfl)
              · replace hF := it_f hF hc
                refine lv_aload_n hx hb dX6_mayStand_142 rfl (lv_at hl 0 rfl) ?_
                refine lv_iload hx hb dX6_mayStand_143 (lv_at hl 4 rfl) ?_
                refine lv_iconst (v := (2 : Int32)) hx hb dX6_mayStand_145 (by decide) ?_
                replace hF := ob hF
                obtain ⟨v9, q10, hF⟩ := hF
                refine k_i (va_runV (As := [.int y7, .int (2 : Int32)]) (rest := []) ⟨hx, hb, hml, hown, hts⟩ (c6_of l y7 (2 : Int32) q10) (cwV 2 hts gX6_mayStand_X6_of rfl rfl rfl (by decide +kernel) ⟨Nat.le_of_ble_eq_true rfl, Nat.le_of_ble_eq_true rfl⟩) (k_preV hW hK hN (hW.fx 6 rfl) (EE_6 cA ad S P M 0) rfl) rfl rfl hl.1 rfl (lv_room (Nat.le_of_ble_eq_true rfl)) dX6_mayStand_146 ⟨Nat.le_of_ble_eq_true rfl, Nat.le_of_ble_eq_true rfl⟩) hS ?_
                clear hW hS; intro H locs hW hS
                refine lv_iconst (v := (2 : Int32)) hx hb dX6_mayStand_149 (by decide) ?_
                refine lv_icmp_ne (tgt := 155) hx hb dX6_mayStand_150 (by decide) (fun hc => ?_) (fun hc => ?_)
                · replace hF := it_f hF hc
                  refine lv_iinc (v := y7 + 1) (lv' := [(7, .int (y7 + 1)), (0, .ref (ad 6 0)), (1, .int c1), (3, .int c3), (6, .int c6)]) hx hb dX6_mayStand_155 hl (k := 4) rfl rfl (by decide) rfl ?_
                  clear hl; intro ls hl
                  refine lv_goto (tgt := 73) hx hb dX6_mayStand_158 (by decide) ?_
                  exact ih (y7 + 1) _ _ _ hF hW hS (lv_sub hl [1, 2, 3, 4, 0] rfl)
                · replace hF := it_t hF hc
                  refine lv_iconst (v := (0 : Int32)) hx hb dX6_mayStand_153 (by decide) ?_
                  have hq1 := Option.some.inj hF
                  subst hq1
                  exact e_z hx hb hr hlk hK hN hW hS (by decide) dX6_mayStand_154
        clear eK114
        refine lv_if_eq (tgt := 114) hx hb dX6_mayStand_97 (by decide) (fun hc => ?_) (fun hc => ?_)
        · replace hF := it_t hF hc
          exact hK114 _ _ _ hF hW hS (lv_sub hl [0, 1, 2, 3, 4] rfl)
        · replace hF := it_f hF hc
          refine lv_aload_n hx hb dX6_mayStand_100 rfl (lv_at hl 0 rfl) ?_
          refine lv_iload hx hb dX6_mayStand_101 (lv_at hl 4 rfl) ?_
          refine lv_bipush (v := (6 : Int32)) hx hb dX6_mayStand_103 (by decide) ?_
          replace hF := ob hF
          obtain ⟨v11, q12, hF⟩ := hF
          refine k_i (va_runV (As := [.int y7, .int (6 : Int32)]) (rest := []) ⟨hx, hb, hml, hown, hts⟩ (c6_of l y7 (6 : Int32) q12) (cwV 2 hts gX6_mayStand_X6_of rfl rfl rfl (by decide +kernel) ⟨Nat.le_of_ble_eq_true rfl, Nat.le_of_ble_eq_true rfl⟩) (k_preV hW hK hN (hW.fx 6 rfl) (EE_6 cA ad S P M 0) rfl) rfl rfl hl.1 rfl (lv_room (Nat.le_of_ble_eq_true rfl)) dX6_mayStand_105 ⟨Nat.le_of_ble_eq_true rfl, Nat.le_of_ble_eq_true rfl⟩) hS ?_
          clear hW hS; intro H locs hW hS
          refine lv_iconst (v := (1 : Int32)) hx hb dX6_mayStand_108 (by decide) ?_
          refine lv_icmp_ne (tgt := 114) hx hb dX6_mayStand_109 (by decide) (fun hc => ?_) (fun hc => ?_)
          · replace hF := it_f hF hc
            exact hK114 _ _ _ hF hW hS (lv_sub hl [0, 1, 2, 3, 4] rfl)
          · replace hF := it_t hF hc
            refine lv_iconst (v := (0 : Int32)) hx hb dX6_mayStand_112 (by decide) ?_
            have hq1 := Option.some.inj hF
            subst hq1
            exact e_z hx hb hr hlk hK hN hW hS (by decide) dX6_mayStand_113
      · replace hF := it_t hF hc
        refine lv_goto (tgt := 155) hx hb dX6_mayStand_92 (by decide) ?_
        refine lv_iinc (v := y7 + 1) (lv' := [(7, .int (y7 + 1)), (0, .ref (ad 6 0)), (1, .int c1), (3, .int c3), (6, .int c6)]) hx hb dX6_mayStand_155 hl (k := 4) rfl rfl (by decide) rfl ?_
        clear hl; intro ls hl
        refine lv_goto (tgt := 73) hx hb dX6_mayStand_158 (by decide) ?_
        exact ih (y7 + 1) _ _ _ hF hW hS (lv_sub hl [1, 2, 3, 4, 0] rfl)

set_option maxHeartbeats 4000000 in
set_option maxRecDepth 100000 in
theorem w6_mayStand {p : Program} {l : Launch} {e : Env} {s : State} {m : MethodId} {args : Array Value} {below : List Frame} {meth : Method} {c : Code} (C : MC p s m args meth c cX6_mayStand (some .boolean) 8 RX6 wsX6_mayStand) {D : va_G} {cA : Nat → ClassId} {z : Nat} {ad : Nat → Nat → Nat} {N : TN} (hK : va_K D vwCl (tysW cA) s) (hN : NW s) {S : TS} {P : TP} {M : TS} (a1 : Int32) (a2 : Int32) (a3 : Int32) (a4 : Int32) (a5 : Int32) {v : Int32} (hF : f6_mayStand M a1 a2 a3 a4 a5 = some v)
    {H : Heap} {ls : Array Slot} (hW : Wd D cA z ad N S P M H) {locs : List Loc} (hS : va_S (fun q => z ≤ q) s.heap H locs) (hl : lv_has ls 8 [(0, .ref (ad 6 0)), (1, .int a1), (2, .int a2), (3, .int a3), (4, .int a4), (5, .int a5)]) : W p l e rm6_mayStand s m args below meth c H locs 0 0 (MQ below (Qi D cA z v (ad, N, S, P, M)) args s 0 0 (fun q => z ≤ q)) (F0 m 0 ls []) := by
  obtain ⟨hx, hb, hr, hml, hown, hts, hlk⟩ := id C
  unfold f6_mayStand at hF
  refine lv_iload hx hb dX6_mayStand_0 (lv_at hl 5 rfl) ?_
  refine lv_iconst (v := (2 : Int32)) hx hb dX6_mayStand_2 (by decide) ?_
  replace hF := lt_ex hF
  obtain ⟨K10, eK10, hF⟩ := hF
  have hK10 : ∀ (H : Heap) (locs : List Loc) (ls : Array Slot), K10 = some v → Wd D cA z ad N S P M H → va_S (fun q => z ≤ q) s.heap H locs → lv_has ls 8 [(0, .ref (ad 6 0)), (1, .int a1), (2, .int a2), (3, .int a3), (4, .int a4), (5, .int a5)] → W p l e rm6_mayStand s m args below meth c H locs 0 0 (MQ below (Qi D cA z v (ad, N, S, P, M)) args s 0 0 (fun q => z ≤ q)) (F0 m 10 ls []) := by
    intro H locs ls hF hW hS hl
    subst eK10
    refine lv_iload hx hb dX6_mayStand_10 (lv_at hl 5 rfl) ?_
    refine lv_iconst (v := (1 : Int32)) hx hb dX6_mayStand_12 (by decide) ?_
    replace hF := lt_ex hF
    obtain ⟨K23, eK23, hF⟩ := hF
    have hK23 : ∀ (H : Heap) (locs : List Loc) (ls : Array Slot), K23 = some v → Wd D cA z ad N S P M H → va_S (fun q => z ≤ q) s.heap H locs → lv_has ls 8 [(0, .ref (ad 6 0)), (1, .int a1), (2, .int a2), (3, .int a3), (4, .int a4), (5, .int a5)] → W p l e rm6_mayStand s m args below meth c H locs 0 0 (MQ below (Qi D cA z v (ad, N, S, P, M)) args s 0 0 (fun q => z ≤ q)) (F0 m 23 ls []) := by
      intro H locs ls hF hW hS hl
      subst eK23
      refine lv_aload_n hx hb dX6_mayStand_23 rfl (lv_at hl 0 rfl) ?_
      refine g6_3 hx hb hts hi6_mayStand_6 hown hK hW (hts (.fieldLink RX6 19 RX6 "half" "[Z") (by decide +kernel)) dX6_mayStand_24 ?_
      refine lv_iload_n hx hb dX6_mayStand_27 rfl (lv_at hl 2 rfl) ?_
      replace hF := ob hF
      obtain ⟨j1, ej1, hF⟩ := hF
      refine l23 hx hb hK hW ej1 dX6_mayStand_28 ?_
      refine lv_if_eq (tgt := 37) hx hb dX6_mayStand_29 (by decide) (fun hc => ?_) (fun hc => ?_)
      · replace hF := it_t hF hc
        refine lv_iconst (v := (1 : Int32)) hx hb dX6_mayStand_37 (by decide) ?_
        have hq1 := Option.some.inj hF
        subst hq1
        exact e_z hx hb hr hlk hK hN hW hS (by decide) dX6_mayStand_38
      · replace hF := it_f hF hc
        refine lv_iload_n hx hb dX6_mayStand_32 rfl (lv_at hl 1 rfl) ?_
        refine lv_iconst (v := (-1 : Int32)) hx hb dX6_mayStand_33 (by decide) ?_
        refine lv_icmp_ne (tgt := 39) hx hb dX6_mayStand_34 (by decide) (fun hc => ?_) (fun hc => ?_)
        · replace hF := it_f hF hc
          refine lv_iload hx hb dX6_mayStand_39 (lv_at hl 5 rfl) ?_
          refine lv_iconst (v := (2 : Int32)) hx hb dX6_mayStand_41 (by decide) ?_
          replace hF := lt_ex hF
          obtain ⟨K56, eK56, hF⟩ := hF
          have hK56 : ∀ (k2 : Int32) (H : Heap) (locs : List Loc) (ls : Array Slot), K56 k2 = some v → Wd D cA z ad N S P M H → va_S (fun q => z ≤ q) s.heap H locs → lv_has ls 8 [(0, .ref (ad 6 0)), (1, .int a1), (3, .int a3)] → W p l e rm6_mayStand s m args below meth c H locs 0 0 (MQ below (Qi D cA z v (ad, N, S, P, M)) args s 0 0 (fun q => z ≤ q)) (F0 m 56 ls [.int k2]) := by
            intro k2 H locs ls hF hW hS hl
            subst eK56
            refine lv_istore (lv' := [(6, .int k2), (0, .ref (ad 6 0)), (1, .int a1), (3, .int a3)]) hx hb dX6_mayStand_56 hl (by decide) rfl ?_
            clear hl; intro ls hl
            refine lv_iload hx hb dX6_mayStand_58 (lv_at hl 0 rfl) ?_
            replace hF := lt_ex hF
            obtain ⟨K70, eK70, hF⟩ := hF
            have hK70 : ∀ (H : Heap) (locs : List Loc) (ls : Array Slot), K70 = some v → Wd D cA z ad N S P M H → va_S (fun q => z ≤ q) s.heap H locs → lv_has ls 8 [(0, .ref (ad 6 0)), (1, .int a1), (3, .int a3), (6, .int k2)] → W p l e rm6_mayStand s m args below meth c H locs 0 0 (MQ below (Qi D cA z v (ad, N, S, P, M)) args s 0 0 (fun q => z ≤ q)) (F0 m 70 ls []) := by
              intro H locs ls hF hW hS hl
              subst eK70
              refine lv_iconst (v := (0 : Int32)) hx hb dX6_mayStand_70 (by decide) ?_
              refine lv_istore (lv' := [(7, .int (0 : Int32)), (0, .ref (ad 6 0)), (1, .int a1), (3, .int a3), (6, .int k2)]) hx hb dX6_mayStand_71 hl (by decide) rfl ?_
              clear hl; intro ls hl
              refine w6_mayStand_73 C hK hN a1 a3 k2 (hE := ?_) FU (0 : Int32) _ _ _ hF hW hS (lv_sub hl [1, 2, 3, 4, 0] rfl)
              intro  H locs ls hF hW hS hl
              refine lv_iconst (v := (1 : Int32)) hx hb dX6_mayStand_161 (by decide) ?_
              have hq1 := Option.some.inj hF
              subst hq1
              exact e_z hx hb hr hlk hK hN hW hS (by decide) dX6_mayStand_162
            clear eK70
            refine lv_if_ne (tgt := 70) hx hb dX6_mayStand_60 (by decide) (fun hc => ?_) (fun hc => ?_)
            · replace hF := it_f hF hc
              exact hK70 _ _ _ hF hW hS (lv_sub hl [1, 2, 3, 0] rfl)
            · replace hF := it_t hF hc
              refine lv_iload_n hx hb dX6_mayStand_63 rfl (lv_at hl 3 rfl) ?_
              refine lv_iconst (v := (1 : Int32)) hx hb dX6_mayStand_64 (by decide) ?_
              refine lv_icmp_eq (tgt := 70) hx hb dX6_mayStand_65 (by decide) (fun hc => ?_) (fun hc => ?_)
              · replace hF := it_t hF hc
                exact hK70 _ _ _ hF hW hS (lv_sub hl [1, 2, 3, 0] rfl)
              · replace hF := it_f hF hc
                refine lv_iconst (v := (1 : Int32)) hx hb dX6_mayStand_68 (by decide) ?_
                have hq1 := Option.some.inj hF
                subst hq1
                exact e_z hx hb hr hlk hK hN hW hS (by decide) dX6_mayStand_69
          clear eK56
          refine lv_icmp_ne (tgt := 55) hx hb dX6_mayStand_42 (by decide) (fun hc => ?_) (fun hc => ?_)
          · replace hF := it_f hF hc
            refine lv_iconst (v := (0 : Int32)) hx hb dX6_mayStand_55 (by decide) ?_
            exact hK56 (0 : Int32) _ _ _ hF hW hS (lv_sub hl [0, 1, 3] rfl)
          · replace hF := it_t hF hc
            refine lv_iload hx hb dX6_mayStand_45 (lv_at hl 4 rfl) ?_
            refine lv_iconst (v := (2 : Int32)) hx hb dX6_mayStand_47 (by decide) ?_
            refine lv_icmp_ge (tgt := 55) hx hb dX6_mayStand_48 (by decide) (fun hc => ?_) (fun hc => ?_)
            · replace hF := it_t hF hc
              refine lv_iconst (v := (0 : Int32)) hx hb dX6_mayStand_55 (by decide) ?_
              exact hK56 (0 : Int32) _ _ _ hF hW hS (lv_sub hl [0, 1, 3] rfl)
            · replace hF := it_f hF hc
              refine lv_iconst (v := (1 : Int32)) hx hb dX6_mayStand_51 (by decide) ?_
              refine lv_goto (tgt := 56) hx hb dX6_mayStand_52 (by decide) ?_
              exact hK56 (1 : Int32) _ _ _ hF hW hS (lv_sub hl [0, 1, 3] rfl)
        · replace hF := it_t hF hc
          refine lv_iconst (v := (1 : Int32)) hx hb dX6_mayStand_37 (by decide) ?_
          have hq1 := Option.some.inj hF
          subst hq1
          exact e_z hx hb hr hlk hK hN hW hS (by decide) dX6_mayStand_38
    clear eK23
    refine lv_icmp_ne (tgt := 23) hx hb dX6_mayStand_13 (by decide) (fun hc => ?_) (fun hc => ?_)
    · replace hF := it_f hF hc
      exact hK23 _ _ _ hF hW hS (lv_sub hl [0, 1, 2, 3, 4, 5] rfl)
    · replace hF := it_t hF hc
      refine lv_iload_n hx hb dX6_mayStand_16 rfl (lv_at hl 3 rfl) ?_
      refine lv_iconst (v := (1 : Int32)) hx hb dX6_mayStand_17 (by decide) ?_
      refine lv_icmp_le (tgt := 23) hx hb dX6_mayStand_18 (by decide) (fun hc => ?_) (fun hc => ?_)
      · replace hF := it_t hF hc
        exact hK23 _ _ _ hF hW hS (lv_sub hl [0, 1, 2, 3, 4, 5] rfl)
      · replace hF := it_f hF hc
        refine lv_iconst (v := (0 : Int32)) hx hb dX6_mayStand_21 (by decide) ?_
        have hq1 := Option.some.inj hF
        subst hq1
        exact e_z hx hb hr hlk hK hN hW hS (by decide) dX6_mayStand_22
  clear eK10
  refine lv_icmp_ne (tgt := 10) hx hb dX6_mayStand_3 (by decide) (fun hc => ?_) (fun hc => ?_)
  · replace hF := it_f hF hc
    exact hK10 _ _ _ hF hW hS (lv_sub hl [0, 1, 2, 3, 4, 5] rfl)
  · replace hF := it_t hF hc
    refine lv_iload_n hx hb dX6_mayStand_6 rfl (lv_at hl 3 rfl) ?_
    refine lv_if_gt (tgt := 21) hx hb dX6_mayStand_7 (by decide) (fun hc => ?_) (fun hc => ?_)
    · replace hF := it_t hF hc
      refine lv_iconst (v := (0 : Int32)) hx hb dX6_mayStand_21 (by decide) ?_
      have hq1 := Option.some.inj hF
      subst hq1
      exact e_z hx hb hr hlk hK hN hW hS (by decide) dX6_mayStand_22
    · replace hF := it_f hF hc
      exact hK10 _ _ _ hF hW hS (lv_sub hl [0, 1, 2, 3, 4, 5] rfl)

set_option maxHeartbeats 4000000 in
set_option maxRecDepth 100000 in
theorem c6_mayStand (l : Launch) {D : va_G} {cA : Nat → ClassId} {z : Nat} {ad : Nat → Nat → Nat} {N : TN} {S : TS} {P : TP} {M : TS} (a1 : Int32) (a2 : Int32) (a3 : Int32) (a4 : Int32) (a5 : Int32) {v : Int32} (hF : f6_mayStand M a1 a2 a3 a4 a5 = some v) : Met l yX6_mayStand wsX6_mayStand rm6_mayStand (va_Pc [.ref (ad 6 0), .int a1, .int a2, .int a3, .int a4, .int a5] (Wl D cA z (ad, N, S, P, M))) (Qi D cA z v (ad, N, S, P, M)) 0 0 (fun q => z ≤ q) := by
  refine Met.ofW (cc := cX6_mayStand) (maxL := 8) (ret := (some .boolean)) (by decide) rfl ?_
  intro p e s m args below meth c s₁ B hml hv
  obtain ⟨rfl, hW, hK, hN⟩ := hv
  have hl := lv_entry ([.ref (ad 6 0), .int a1, .int a2, .int a3, .int a4, .int a5]) (n := 8) (Nat.le_of_ble_eq_true rfl)
  rw [lg_entry_eq]
  generalize (lg_sl ([.ref (ad 6 0), .int a1, .int a2, .int a3, .int a4, .int a5]) ++ List.replicate (8 - (lg_sl ([.ref (ad 6 0), .int a1, .int a2, .int a3, .int a4, .int a5])).length) Slot.unset).toArray = ls at hl ⊢
  exact w6_mayStand ⟨B.exec, B.bytes, B.returns, hml, findClass_of_methodNamed B.named, atoms_spec (ws := wsX6_mayStand) B.pre, B.notSynchronized⟩ hK hN a1 a2 a3 a4 a5 hF hW va_S.rf hl

