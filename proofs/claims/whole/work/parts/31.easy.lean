/-! numbered things, and the calls that only tell -/
section EASY
variable {k ns nc nv nt tn bn : Nat} {ch : Nat → Nat → List Nat} {S : TS} {P : TP} {N : TN} {M : TS}
theorem tn_some (hC : CI k ns nc nv nt tn ch S P N) {t : Nat} (ht : t < nt) : f5_ticketNumbered S P (nI t) = some (some t) := by
  obtain ⟨⟨-, -, -, h⟩, ⟨-, -, -, hb⟩, -⟩ := hC.cnt
  have hp := (hC.tick t ht).1
  unfold f5_ticketNumbered
  rw [h, within_t (nI_pos (by omega)) (by rw [sub1_lt (by omega)]; exact nI_ge ht (by omega)), Option.bind_some, if_neg (by decide), ix_nI (by omega) (by decide)]
  simp only [Option.bind_some, lt, hp]
theorem tn_none (hC : CI k ns nc nv nt tn ch S P N) {a : Int32} (ha : a < 0 ∨ nI nt ≤ a) : f5_ticketNumbered S P a = some none := by
  obtain ⟨⟨-, -, -, h⟩, ⟨-, -, -, hb⟩, -⟩ := hC.cnt
  unfold f5_ticketNumbered
  rw [h, within_f (by rw [sub1_lt (by omega)]; exact ha), Option.bind_some, if_pos rfl]
theorem sn_some (hC : CI k ns nc nv nt tn ch S P N) {t : Nat} (ht : t < nv) : f5_sailingNumbered S P (nI t) = some (some t) := by
  obtain ⟨⟨-, -, h, -⟩, ⟨-, -, hb, -⟩, -⟩ := hC.cnt
  have hp := (hC.sail t ht).1
  unfold f5_sailingNumbered
  rw [h, within_t (nI_pos (by omega)) (by rw [sub1_lt (by omega)]; exact nI_ge ht (by omega)), Option.bind_some, if_neg (by decide), ix_nI (by omega) (by decide)]
  simp only [Option.bind_some, lt, hp]
theorem sn_none (hC : CI k ns nc nv nt tn ch S P N) {a : Int32} (ha : a < 0 ∨ nI nv ≤ a) : f5_sailingNumbered S P a = some none := by
  obtain ⟨⟨-, -, h, -⟩, ⟨-, -, hb, -⟩, -⟩ := hC.cnt
  unfold f5_sailingNumbered
  rw [h, within_f (by rw [sub1_lt (by omega)]; exact ha), Option.bind_some, if_pos rfl]
theorem pn_some (hC : CI k ns nc nv nt tn ch S P N) {t : Nat} (ht : t < ns) : f5_shipNumbered S P (nI t) = some (some t) := by
  obtain ⟨⟨h, -, -, -⟩, ⟨hb, -, -, -⟩, -⟩ := hC.cnt
  have hp := (hC.ship t ht).1
  unfold f5_shipNumbered
  rw [h, within_t (nI_pos (by omega)) (by rw [sub1_lt (by omega)]; exact nI_ge ht (by omega)), Option.bind_some, if_neg (by decide), ix_nI (by omega) (by decide)]
  simp only [Option.bind_some, lt, hp]
theorem pn_none (hC : CI k ns nc nv nt tn ch S P N) {a : Int32} (ha : a < 0 ∨ nI ns ≤ a) : f5_shipNumbered S P a = some none := by
  obtain ⟨⟨h, -, -, -⟩, ⟨hb, -, -, -⟩, -⟩ := hC.cnt
  unfold f5_shipNumbered
  rw [h, within_f (by rw [sub1_lt (by omega)]; exact ha), Option.bind_some, if_pos rfl]
theorem isT_some (hM : MI ns nc nv nt tn bn S P M) (hb : nt ≤ 400) {t : Nat} (ht : t < nt) : f6_isTicket M (nI t) = some 1 := by
  unfold f6_isTicket
  rw [hM.cnt.2.2.2, if_neg (nI_pos (by omega)), if_neg (nI_ge ht (by omega))]
theorem isT_none (hM : MI ns nc nv nt tn bn S P M) {a : Int32} (ha : a < 0 ∨ nI nt ≤ a) : f6_isTicket M a = some 0 := by
  unfold f6_isTicket
  rw [hM.cnt.2.2.2]
  by_cases h : a < 0
  · rw [if_pos h]
  · rw [if_neg h, if_pos (ha.resolve_left h)]
theorem isS_some (hM : MI ns nc nv nt tn bn S P M) (hb : nv ≤ 60) {t : Nat} (ht : t < nv) : f6_isSailing M (nI t) = some 1 := by
  unfold f6_isSailing
  rw [hM.cnt.2.2.1, if_neg (nI_pos (by omega)), if_neg (nI_ge ht (by omega))]
theorem isS_none (hM : MI ns nc nv nt tn bn S P M) {a : Int32} (ha : a < 0 ∨ nI nv ≤ a) : f6_isSailing M a = some 0 := by
  unfold f6_isSailing
  rw [hM.cnt.2.2.1]
  by_cases h : a < 0
  · rw [if_pos h]
  · rw [if_neg h, if_pos (ha.resolve_left h)]
theorem isP_some (hM : MI ns nc nv nt tn bn S P M) (hb : ns ≤ 12) {t : Nat} (ht : t < ns) : f6_isShip M (nI t) = some 1 := by
  unfold f6_isShip
  rw [hM.cnt.1, if_neg (nI_pos (by omega)), if_neg (nI_ge ht (by omega))]
theorem isP_none (hM : MI ns nc nv nt tn bn S P M) {a : Int32} (ha : a < 0 ∨ nI ns ≤ a) : f6_isShip M a = some 0 := by
  unfold f6_isShip
  rw [hM.cnt.1]
  by_cases h : a < 0
  · rw [if_pos h]
  · rw [if_neg h, if_pos (ha.resolve_left h)]
theorem nI_13 {t q : Nat} : (13 : Int32) * nI t + nI q = nI (13 * t + q) := by
  rw [show (13 : Int32) = nI 13 from rfl, pk_mul, nI_add]
theorem of_at {M : TS} {t q : Nat} (ht : t < 400) (hq : q < 13) : f6_of M (nI t) (nI q) = some (M 3500 (13 * t + q)) := by
  unfold f6_of
  rw [nI_13, ix_nI (by omega) (by decide), Option.bind_some]
theorem of_eq (hM : MI ns nc nv nt tn bn S P M) (hb : nt ≤ 400) {t : Nat} (ht : t < nt) (q : Nat) (hq : q < 13) : f6_of M (nI t) (nI q) = some (tS S P q t) := by
  rw [of_at (by omega) hq, hM.tick t q ht hq]
theorem put_at {M : TS} {t q : Nat} (ht : t < 400) (hq : q < 13) (v : Int32) : f6_put M (nI t) (nI q) v = some (up M 3500 (13 * t + q) v) := by
  unfold f6_put
  rw [nI_13, ix_nI (by omega) (by decide), Option.bind_some]
theorem B_count_ok : B_count Inv := by
  rintro k S P N M a1 hk ⟨ns, nc, nv, nt, tn, bn, ch, hC, hM, hR⟩
  obtain ⟨⟨h1, h2, h3, h4⟩, -⟩ := hC.cnt
  obtain ⟨m1, m2, m3, m4⟩ := hM.cnt
  have hI : Inv (k + 1) S P N M := Inv_up _ _ _ _ _ ⟨ns, nc, nv, nt, tn, bn, ch, hC, hM, hR⟩
  unfold f5_count f6_count
  rw [h1, h2, h3, h4, m1, m2, m3, m4, hC.turn.1, hM.turn.1]
  repeat' split
  all_goals exact ⟨_, rfl, rfl, hI⟩
theorem tell_eq (hC : CI k ns nc nv nt tn ch S P N) {t : Nat} (ht : t < nt) (q : Nat) (hq : q < 13) : f4_tell S P t (nI q) = some (tS S P q t) := by
  obtain ⟨-, -, h401, hsl, -⟩ := hC.tick t ht
  have h200 := (hC.sail (sl P t) hsl).2.1
  unfold f4_tell
  match q, hq with
  | 0, _ => rw [if_pos (show nI 0 = 0 from rfl)]; simp only [lt, h401, Option.bind_some, h200]; rfl
  | 1, _ => rfl
  | 2, _ => rfl
  | 3, _ => rfl
  | 4, _ => rfl
  | 5, _ => rfl
  | 6, _ => rfl
  | 7, _ => rfl
  | 8, _ => rfl
  | 9, _ => rfl
  | 10, _ => rfl
  | 11, _ => rfl
  | 12, _ => rfl
theorem tell_out {S : TS} {P : TP} {t : Nat} {a : Int32} (h : a < 0 ∨ 12 < a) : f4_tell S P t a = some (-1) := by
  unfold f4_tell
  have ne : ∀ q : Nat, q ≤ 12 → ¬ a = nI q := by
    rintro q hq rfl
    rcases h with h | h
    · exact nI_pos (by omega) h
    · exact nI_nlt (a := 12) (b := q) hq (by decide) h
  rw [if_neg (show ¬ a = 0 from ne 0 (by omega)), if_neg (show ¬ a = 1 from ne 1 (by omega)), if_neg (show ¬ a = 2 from ne 2 (by omega)), if_neg (show ¬ a = 3 from ne 3 (by omega)), if_neg (show ¬ a = 4 from ne 4 (by omega)), if_neg (show ¬ a = 5 from ne 5 (by omega)), if_neg (show ¬ a = 6 from ne 6 (by omega)), if_neg (show ¬ a = 7 from ne 7 (by omega)), if_neg (show ¬ a = 8 from ne 8 (by omega)), if_neg (show ¬ a = 9 from ne 9 (by omega)), if_neg (show ¬ a = 10 from ne 10 (by omega)), if_neg (show ¬ a = 11 from ne 11 (by omega)), if_neg (show ¬ a = 12 from ne 12 (by omega))]
theorem B_ticketOf_ok : B_ticketOf Inv := by
  rintro k S P N M a1 a2 hk ⟨ns, nc, nv, nt, tn, bn, ch, hC, hM, hR⟩
  have hI : Inv (k + 1) S P N M := Inv_up _ _ _ _ _ ⟨ns, nc, nv, nt, tn, bn, ch, hC, hM, hR⟩
  obtain ⟨-, ⟨-, -, -, hb⟩, -⟩ := hC.cnt
  have none_ : (a1 < 0 ∨ nI nt ≤ a1) → ∃ v, f5_ticketOf S P a1 a2 = some v ∧ f6_ticketOf M a1 a2 = some v ∧ Inv (k + 1) S P N M := by
    intro h
    refine ⟨-1, ?_, ?_, hI⟩
    · unfold f5_ticketOf; rw [tn_none hC h]; rfl
    · unfold f6_ticketOf; rw [isT_none hM h]; rfl
  rcases pk_ix a1 (n := nt) (by omega) with h | h | ⟨t, ht, rfl⟩
  · exact none_ (Or.inl h)
  · exact none_ (Or.inr h)
  · unfold f5_ticketOf f6_ticketOf
    rw [tn_some hC ht, isT_some hM hb ht]
    simp only [Option.bind_some, Option.elim_some]
    rcases within_c a2 0 12 with ⟨h, h1, h2⟩ | ⟨h, h1⟩
    · obtain ⟨q, rfl, -, hq⟩ := within_nat (a := 0) (b := 12) (by decide) (by decide) h1 h2
      rw [tell_eq hC ht q (by omega), isIn_eq, h]
      simp only [Option.bind_some]
      rw [if_neg (by decide), if_neg (by decide), of_eq hM hb ht q (by omega)]
      exact ⟨_, rfl, rfl, hI⟩
    · rw [tell_out h1, isIn_eq, h]
      exact ⟨_, rfl, rfl, hI⟩
theorem B_log_ok : B_log Inv := by
  rintro k S P N M a1 a2 hk ⟨ns, nc, nv, nt, tn, bn, ch, hC, hM, hR⟩
  have hI : Inv (k + 1) S P N M := Inv_up _ _ _ _ _ ⟨ns, nc, nv, nt, tn, bn, ch, hC, hM, hR⟩
  obtain ⟨hT, htn⟩ := hC.turn
  have hT6 := hM.turn.1
  have hb : tn ≤ 256000 := by omega
  have hx : (if (3000 : Int32) < S 511 0 then (3000 : Int32) else S 511 0) = nI (min tn 3000) := by
    rw [hT]
    by_cases h : 3000 < tn
    · rw [if_pos (show (3000 : Int32) < nI tn from nI_lt (a := 3000) h (by omega)), Nat.min_eq_right (by omega)]; rfl
    · rw [if_neg (show ¬ (3000 : Int32) < nI tn from nI_nlt (b := tn) (a := 3000) (by omega) (by omega)), Nat.min_eq_left (by omega)]
  have no : (a1 < 0 ∨ nI (min tn 3000) ≤ a1) → ∃ v, f5_log S P a1 a2 = some v ∧ f6_log M a1 a2 = some v ∧ Inv (k + 1) S P N M := by
    intro h
    refine ⟨-1, ?_, ?_, hI⟩
    · unfold f5_log
      simp only [lt]
      rw [hx, within_f (by rw [sub1_lt (by omega)]; exact h)]; rfl
    · unfold f6_log
      rw [hT6]
      by_cases h0 : a1 < 0
      · rw [if_pos h0]
      · rw [if_neg h0]
        have h := h.resolve_left h0
        by_cases h1 : nI tn ≤ a1
        · rw [if_pos h1]
        · rw [if_neg h1, if_neg]
          intro h2
          by_cases h3 : tn ≤ 3000
          · rw [Nat.min_eq_left h3] at h; exact h1 h
          · rw [Nat.min_eq_right (by omega)] at h
            rw [Int32.lt_iff_toInt_lt] at h2
            rw [Int32.le_iff_toInt_le] at h
            have : (nI 3000).toInt = (3000 : Int32).toInt := rfl
            omega
  rcases pk_ix a1 (n := min tn 3000) (by omega) with h | h | ⟨t, ht, rfl⟩
  · exact no (Or.inl h)
  · exact no (Or.inr h)
  · obtain ⟨l1, l2, l3⟩ := hM.log t (by omega)
    have e5 : f5_log S P (nI t) a2 = if a2 = 0 then some (S 1100 t) else if a2 = 1 then some (S 1200 t) else if a2 = 2 then some (S 1300 t) else some (-1) := by
      unfold f5_log
      simp only [lt]
      rw [hx, within_t (nI_pos (by omega)) (by rw [sub1_lt (by omega)]; exact nI_ge ht (by omega)), Option.bind_some, if_neg (by decide), ix_nI (by omega) (by decide)]
      rfl
    have e6 : f6_log M (nI t) a2 = if a2 = 0 then some (S 1100 t) else if a2 = 1 then some (S 1200 t) else if a2 = 2 then some (S 1300 t) else some (-1) := by
      unfold f6_log
      rw [hT6, if_neg (nI_pos (by omega)), if_neg (nI_ge (a := t) (b := tn) (by omega) (by omega)), if_pos (show nI t < (3000 : Int32) from nI_lt (a := t) (b := 3000) (by omega) (by decide)), ix_nI (by omega) (by decide), ← l1, ← l2, ← l3]
      rfl
    rw [e5, e6]
    repeat' split
    all_goals exact ⟨_, rfl, rfl, hI⟩
end EASY
