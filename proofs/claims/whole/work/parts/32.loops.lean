/-! loops over tickets and sailings in lockstep; sailingOf, total, kept -/
section LOOPS
variable {k ns nc nv nt tn bn : Nat} {ch : Nat → Nat → List Nat} {S : TS} {P : TP} {N : TN} {M : TS}
theorem of0 (hM : MI ns nc nv nt tn bn S P M) (hb : nt ≤ 400) {t : Nat} (ht : t < nt) : f6_of M (nI t) 0 = some (nI (sl P t)) := of_eq hM hb ht 0 (by decide)
theorem ofa0 {M : TS} {t : Nat} (ht : t < 400) : f6_of M (nI t) 0 = some (M 3500 (13 * t + 0)) := of_at (q := 0) ht (by decide)
theorem put0 {M : TS} {t : Nat} (ht : t < 400) (v : Int32) : f6_put M (nI t) 0 v = some (up M 3500 (13 * t + 0) v) := put_at (q := 0) ht (by decide) v
theorem of1 (hM : MI ns nc nv nt tn bn S P M) (hb : nt ≤ 400) {t : Nat} (ht : t < nt) : f6_of M (nI t) 1 = some (S 402 t) := of_eq hM hb ht 1 (by decide)
theorem ofa1 {M : TS} {t : Nat} (ht : t < 400) : f6_of M (nI t) 1 = some (M 3500 (13 * t + 1)) := of_at (q := 1) ht (by decide)
theorem put1 {M : TS} {t : Nat} (ht : t < 400) (v : Int32) : f6_put M (nI t) 1 v = some (up M 3500 (13 * t + 1) v) := put_at (q := 1) ht (by decide) v
theorem of2 (hM : MI ns nc nv nt tn bn S P M) (hb : nt ≤ 400) {t : Nat} (ht : t < nt) : f6_of M (nI t) 2 = some (S 403 t) := of_eq hM hb ht 2 (by decide)
theorem ofa2 {M : TS} {t : Nat} (ht : t < 400) : f6_of M (nI t) 2 = some (M 3500 (13 * t + 2)) := of_at (q := 2) ht (by decide)
theorem put2 {M : TS} {t : Nat} (ht : t < 400) (v : Int32) : f6_put M (nI t) 2 v = some (up M 3500 (13 * t + 2) v) := put_at (q := 2) ht (by decide) v
theorem of3 (hM : MI ns nc nv nt tn bn S P M) (hb : nt ≤ 400) {t : Nat} (ht : t < nt) : f6_of M (nI t) 3 = some (S 404 t) := of_eq hM hb ht 3 (by decide)
theorem ofa3 {M : TS} {t : Nat} (ht : t < 400) : f6_of M (nI t) 3 = some (M 3500 (13 * t + 3)) := of_at (q := 3) ht (by decide)
theorem put3 {M : TS} {t : Nat} (ht : t < 400) (v : Int32) : f6_put M (nI t) 3 v = some (up M 3500 (13 * t + 3) v) := put_at (q := 3) ht (by decide) v
theorem of4 (hM : MI ns nc nv nt tn bn S P M) (hb : nt ≤ 400) {t : Nat} (ht : t < nt) : f6_of M (nI t) 4 = some (S 406 t) := of_eq hM hb ht 4 (by decide)
theorem ofa4 {M : TS} {t : Nat} (ht : t < 400) : f6_of M (nI t) 4 = some (M 3500 (13 * t + 4)) := of_at (q := 4) ht (by decide)
theorem put4 {M : TS} {t : Nat} (ht : t < 400) (v : Int32) : f6_put M (nI t) 4 v = some (up M 3500 (13 * t + 4) v) := put_at (q := 4) ht (by decide) v
theorem of5 (hM : MI ns nc nv nt tn bn S P M) (hb : nt ≤ 400) {t : Nat} (ht : t < nt) : f6_of M (nI t) 5 = some (S 407 t) := of_eq hM hb ht 5 (by decide)
theorem ofa5 {M : TS} {t : Nat} (ht : t < 400) : f6_of M (nI t) 5 = some (M 3500 (13 * t + 5)) := of_at (q := 5) ht (by decide)
theorem put5 {M : TS} {t : Nat} (ht : t < 400) (v : Int32) : f6_put M (nI t) 5 v = some (up M 3500 (13 * t + 5) v) := put_at (q := 5) ht (by decide) v
theorem of6 (hM : MI ns nc nv nt tn bn S P M) (hb : nt ≤ 400) {t : Nat} (ht : t < nt) : f6_of M (nI t) 6 = some (S 408 t) := of_eq hM hb ht 6 (by decide)
theorem ofa6 {M : TS} {t : Nat} (ht : t < 400) : f6_of M (nI t) 6 = some (M 3500 (13 * t + 6)) := of_at (q := 6) ht (by decide)
theorem put6 {M : TS} {t : Nat} (ht : t < 400) (v : Int32) : f6_put M (nI t) 6 v = some (up M 3500 (13 * t + 6) v) := put_at (q := 6) ht (by decide) v
theorem of7 (hM : MI ns nc nv nt tn bn S P M) (hb : nt ≤ 400) {t : Nat} (ht : t < nt) : f6_of M (nI t) 7 = some (S 409 t) := of_eq hM hb ht 7 (by decide)
theorem ofa7 {M : TS} {t : Nat} (ht : t < 400) : f6_of M (nI t) 7 = some (M 3500 (13 * t + 7)) := of_at (q := 7) ht (by decide)
theorem put7 {M : TS} {t : Nat} (ht : t < 400) (v : Int32) : f6_put M (nI t) 7 v = some (up M 3500 (13 * t + 7) v) := put_at (q := 7) ht (by decide) v
theorem of8 (hM : MI ns nc nv nt tn bn S P M) (hb : nt ≤ 400) {t : Nat} (ht : t < nt) : f6_of M (nI t) 8 = some (S 410 t) := of_eq hM hb ht 8 (by decide)
theorem ofa8 {M : TS} {t : Nat} (ht : t < 400) : f6_of M (nI t) 8 = some (M 3500 (13 * t + 8)) := of_at (q := 8) ht (by decide)
theorem put8 {M : TS} {t : Nat} (ht : t < 400) (v : Int32) : f6_put M (nI t) 8 v = some (up M 3500 (13 * t + 8) v) := put_at (q := 8) ht (by decide) v
theorem of9 (hM : MI ns nc nv nt tn bn S P M) (hb : nt ≤ 400) {t : Nat} (ht : t < nt) : f6_of M (nI t) 9 = some (S 411 t) := of_eq hM hb ht 9 (by decide)
theorem ofa9 {M : TS} {t : Nat} (ht : t < 400) : f6_of M (nI t) 9 = some (M 3500 (13 * t + 9)) := of_at (q := 9) ht (by decide)
theorem put9 {M : TS} {t : Nat} (ht : t < 400) (v : Int32) : f6_put M (nI t) 9 v = some (up M 3500 (13 * t + 9) v) := put_at (q := 9) ht (by decide) v
theorem of10 (hM : MI ns nc nv nt tn bn S P M) (hb : nt ≤ 400) {t : Nat} (ht : t < nt) : f6_of M (nI t) 10 = some (S 405 t) := of_eq hM hb ht 10 (by decide)
theorem ofa10 {M : TS} {t : Nat} (ht : t < 400) : f6_of M (nI t) 10 = some (M 3500 (13 * t + 10)) := of_at (q := 10) ht (by decide)
theorem put10 {M : TS} {t : Nat} (ht : t < 400) (v : Int32) : f6_put M (nI t) 10 v = some (up M 3500 (13 * t + 10) v) := put_at (q := 10) ht (by decide) v
theorem of11 (hM : MI ns nc nv nt tn bn S P M) (hb : nt ≤ 400) {t : Nat} (ht : t < nt) : f6_of M (nI t) 11 = some (S 412 t) := of_eq hM hb ht 11 (by decide)
theorem ofa11 {M : TS} {t : Nat} (ht : t < 400) : f6_of M (nI t) 11 = some (M 3500 (13 * t + 11)) := of_at (q := 11) ht (by decide)
theorem put11 {M : TS} {t : Nat} (ht : t < 400) (v : Int32) : f6_put M (nI t) 11 v = some (up M 3500 (13 * t + 11) v) := put_at (q := 11) ht (by decide) v
theorem of12 (hM : MI ns nc nv nt tn bn S P M) (hb : nt ≤ 400) {t : Nat} (ht : t < nt) : f6_of M (nI t) 12 = some (S 413 t) := of_eq hM hb ht 12 (by decide)
theorem ofa12 {M : TS} {t : Nat} (ht : t < 400) : f6_of M (nI t) 12 = some (M 3500 (13 * t + 12)) := of_at (q := 12) ht (by decide)
theorem put12 {M : TS} {t : Nat} (ht : t < 400) (v : Int32) : f6_put M (nI t) 12 v = some (up M 3500 (13 * t + 12) v) := put_at (q := 12) ht (by decide) v
theorem CI.nt4 (hC : CI k ns nc nv nt tn ch S P N) : nt ≤ 400 := hC.cnt.2.1.2.2.2
theorem CI.nv6 (hC : CI k ns nc nv nt tn ch S P N) : nv ≤ 60 := hC.cnt.2.1.2.2.1
theorem CI.nc1 (hC : CI k ns nc nv nt tn ch S P N) : nc ≤ 120 := hC.cnt.2.1.2.1
theorem CI.ns1 (hC : CI k ns nc nv nt tn ch S P N) : ns ≤ 12 := hC.cnt.2.1.1
theorem CI.c1 (hC : CI k ns nc nv nt tn ch S P N) : S 501 0 = nI ns := hC.cnt.1.1
theorem CI.c3 (hC : CI k ns nc nv nt tn ch S P N) : S 503 0 = nI nc := hC.cnt.1.2.1
theorem CI.c5 (hC : CI k ns nc nv nt tn ch S P N) : S 505 0 = nI nv := hC.cnt.1.2.2.1
theorem CI.c7 (hC : CI k ns nc nv nt tn ch S P N) : S 507 0 = nI nt := hC.cnt.1.2.2.2
theorem CI.t1 (hC : CI k ns nc nv nt tn ch S P N) {t : Nat} (ht : t < nt) : P 1000 0 t = some t := (hC.tick t ht).1
theorem CI.t4 (hC : CI k ns nc nv nt tn ch S P N) {t : Nat} (ht : t < nt) : P 401 t 0 = some (sl P t) := (hC.tick t ht).2.2.1
theorem CI.t5 (hC : CI k ns nc nv nt tn ch S P N) {t : Nat} (ht : t < nt) : sl P t < nv := (hC.tick t ht).2.2.2.1
theorem CI.s9 (hC : CI k ns nc nv nt tn ch S P N) {s : Nat} (hs : s < nv) : P 900 0 s = some s := (hC.sail s hs).1
theorem CI.s2 (hC : CI k ns nc nv nt tn ch S P N) {s : Nat} (hs : s < nv) : P 201 s 0 = some (vs P s) := (hC.sail s hs).2.2.1
theorem CI.s3 (hC : CI k ns nc nv nt tn ch S P N) {s : Nat} (hs : s < nv) : vs P s < ns := (hC.sail s hs).2.2.2
theorem CI.b8 (hC : CI k ns nc nv nt tn ch S P N) {c : Nat} (hc : c < nc) : P 800 0 c = some c := (hC.cab c hc).1
theorem CI.b1 (hC : CI k ns nc nv nt tn ch S P N) {c : Nat} (hc : c < nc) : P 100 c 0 = some (cs P c) := (hC.cab c hc).2.1
theorem one_ne : ¬ (1 : Int32) = 0 := by decide
theorem some_eq {a b : Nat} : (some a = some b) = (a = b) := by simp
theorem isAb (hM : MI ns nc nv nt tn bn S P M) (hb : nt ≤ 400) (hv : nv ≤ 60) {t s : Nat} (ht : t < nt) (hsl : sl P t < nv) (hs : s < nv) : f6_isAboard M (nI t) (nI s) = some (if sl P t = s ∧ S 406 t = 3 then 1 else 0) := by
  unfold f6_isAboard
  rw [of0 hM hb ht, of4 hM hb ht]
  simp only [Option.bind_some]
  by_cases h1 : sl P t = s
  · rw [if_pos (by rw [h1])]
    by_cases h2 : S 406 t = 3
    · rw [if_pos h2, if_pos ⟨h1, h2⟩]
    · rw [if_neg h2, if_neg (fun h => h2 h.2)]
  · rw [if_neg (fun e => h1 (nI_inj (by omega) (by omega) e)), if_neg (fun h => h1 h.1)]
theorem tOf (hC : CI k ns nc nv nt tn ch S P N) (hM : MI ns nc nv nt tn bn S P M) {s : Nat} (hs : s < nv) (K K' : Int32 → Option Int32) : ∀ (n i : Nat) (a : Int32), i ≤ nt → nt < i + n → ∃ r, f5_ticketsOf_4 K S P s n a (nI i) = K r ∧ f6_sailingOf_99 K' M (nI s) n a (nI i) = K' r := by
  have hb := hC.nt4
  have hv := hC.nv6
  intro n
  induction n with
  | zero => intro i a h1 h2; omega
  | succ n ih =>
    intro i a h1 h2
    rw [f5_ticketsOf_4, f6_sailingOf_99, hC.c7, hM.cnt.2.2.2]
    rcases Nat.lt_or_ge i nt with hi | hi
    · have hsl := hC.t5 hi
      rw [if_neg (nI_ge hi (by omega)), if_neg (nI_ge hi (by omega)), ix_nI (by omega) (by decide), of0 hM hb hi]
      simp only [Option.bind_some, lt, hC.t1 hi, hC.t4 hi, some_eq]
      by_cases h : sl P i = s
      · rw [if_pos h, if_pos (by rw [h]), nI_1]
        exact ih (i + 1) _ (by omega) (by omega)
      · rw [if_neg h, if_neg (fun e => h (nI_inj (by omega) (by omega) e)), nI_1, Int32.add_zero]
        exact ih (i + 1) _ (by omega) (by omega)
    · have : i = nt := by omega
      subst this
      rw [if_pos (Int32.le_refl _), if_pos (Int32.le_refl _)]
      exact ⟨a, rfl, rfl⟩
theorem FU_eq : FU = 6000 := rfl
theorem B_sailingOf_ok : B_sailingOf Inv := by
  rintro k S P N M a1 a2 hk ⟨ns, nc, nv, nt, tn, bn, ch, hC, hM, hR⟩
  have hI : Inv (k + 1) S P N M := Inv_up _ _ _ _ _ ⟨ns, nc, nv, nt, tn, bn, ch, hC, hM, hR⟩
  have hb := hC.nt4
  have hv := hC.nv6
  have none_ : (a1 < 0 ∨ nI nv ≤ a1) → ∃ v, f5_sailingOf S P a1 a2 = some v ∧ f6_sailingOf M a1 a2 = some v ∧ Inv (k + 1) S P N M := by
    intro h
    refine ⟨-1, ?_, ?_, hI⟩
    · unfold f5_sailingOf; rw [sn_none hC h]; rfl
    · unfold f6_sailingOf; rw [isS_none hM h]; rfl
  rcases pk_ix a1 (n := nv) (by omega) with h | h | ⟨s, hs, rfl⟩
  · exact none_ (Or.inl h)
  · exact none_ (Or.inr h)
  · unfold f5_sailingOf f6_sailingOf
    obtain ⟨r, h5, h6⟩ := tOf hC hM hs (fun w5 => some w5) (fun w12 => some w12) FU 0 0 (by omega) (by rw [FU_eq]; omega)
    rw [sn_some hC hs, isS_some hM hv hs]
    simp only [Option.bind_some, Option.elim_some, lt, hC.s2 hs, ix_nI (show s < 60 by omega) (by decide), if_neg one_ne]
    have h300 : S 300 (vs P s) = nI (vs P s) := (hC.ship _ (hC.s3 hs)).2.2.1
    obtain ⟨m1, m2, m3⟩ := hM.sail s hs
    obtain ⟨m4, m5, m6⟩ := hM.how s hs
    rw [h300, m1, m2, m3, m4, m5, m6, show f5_ticketsOf S P s = some r from h5, show f6_sailingOf_99 (fun w12 => some w12) M (nI s) FU 0 0 = some r from h6]
    repeat' split
    all_goals exact ⟨_, rfl, rfl, hI⟩
theorem tot (hC : CI k ns nc nv nt tn ch S P N) (hM : MI ns nc nv nt tn bn S P M) {s : Nat} (hs : s < nv) (c2 : Int32) (h23 : c2 = 0 ∨ c2 = 1 ∨ c2 = 2 ∨ c2 = 3) (K K' : Int32 → Option Int32) : ∀ (n i : Nat) (a : Int32), i ≤ nt → nt < i + n → ∃ r, f5_total_27 K S P c2 s n a (nI i) = K r ∧ f6_total_24 K' M (nI s) c2 n a (nI i) = K' r := by
  have hb := hC.nt4
  have hv := hC.nv6
  intro n
  induction n with
  | zero => intro i a h1 h2; omega
  | succ n ih =>
    intro i a h1 h2
    rw [f5_total_27, f6_total_24, hC.c7, hM.cnt.2.2.2]
    rcases Nat.lt_or_ge i nt with hi | hi
    · have hsl := hC.t5 hi
      rw [if_neg (nI_ge hi (by omega)), if_neg (nI_ge hi (by omega)), ix_nI (by omega) (by decide), of0 hM hb hi, of4 hM hb hi, of1 hM hb hi, of10 hM hb hi, of9 hM hb hi, of3 hM hb hi]
      simp only [Option.bind_some, lt, hC.t1 hi, hC.t4 hi, some_eq, f5_shareOfTotal, show (nI (sl P i) = nI s) = (sl P i = s) from propext (nI_eq (by omega) (by omega))]
      have next : ∀ a, ∃ r, f5_total_27 K S P c2 s n a (nI i + 1) = K r ∧ f6_total_24 K' M (nI s) c2 n a (nI i + 1) = K' r := fun a => by rw [nI_1]; exact ih (i + 1) a (by omega) (by omega)
      by_cases h : sl P i = s
      · simp only [if_pos h]
        have both : ∃ r, ((if c2 = 0 then some 1 else if c2 = 1 then some (S 402 i) else if c2 = 2 then if S 411 i = -1 then some 0 else some (S 404 i) else some (S 405 i)).bind fun v12 => f5_total_27 K S P c2 s n (a + v12) (nI i + 1)) = K r ∧ (if c2 = 0 then f6_total_24 K' M (nI s) c2 n (a + 1) (nI i + 1) else if c2 = 1 then f6_total_24 K' M (nI s) c2 n (a + S 402 i) (nI i + 1) else if c2 = 3 then f6_total_24 K' M (nI s) c2 n (a + S 405 i) (nI i + 1) else if S 411 i = -1 then f6_total_24 K' M (nI s) c2 n (a + 0) (nI i + 1) else f6_total_24 K' M (nI s) c2 n (a + S 404 i) (nI i + 1)) = K' r := by
          rcases h23 with rfl | rfl | rfl | rfl
          · exact next _
          · exact next _
          · by_cases h9 : S 411 i = -1
            · simp only [h9]; exact next _
            · simp only [h9]; exact next _
          · exact next _
        by_cases h3 : S 406 i = 3
        · simp only [if_pos h3]; exact both
        · simp only [if_neg h3]
          by_cases h6 : S 406 i = 6
          · simp only [if_pos h6]; exact both
          · simp only [if_neg h6]; exact next a
      · simp only [if_neg h]
        exact next a
    · have : i = nt := by omega
      subst this
      rw [if_pos (Int32.le_refl _), if_pos (Int32.le_refl _)]
      exact ⟨a, rfl, rfl⟩
theorem B_total_ok : B_total Inv := by
  rintro k S P N M a1 a2 hk ⟨ns, nc, nv, nt, tn, bn, ch, hC, hM, hR⟩
  have hI : Inv (k + 1) S P N M := Inv_up _ _ _ _ _ ⟨ns, nc, nv, nt, tn, bn, ch, hC, hM, hR⟩
  have hb := hC.nt4
  have hv := hC.nv6
  have none_ : (a1 < 0 ∨ nI nv ≤ a1) → ∃ v, f5_total S P a1 a2 = some v ∧ f6_total M a1 a2 = some v ∧ Inv (k + 1) S P N M := by
    intro h
    refine ⟨-1, ?_, ?_, hI⟩
    · unfold f5_total; rw [sn_none hC h]; rfl
    · unfold f6_total; rw [isS_none hM h]; rfl
  rcases pk_ix a1 (n := nv) (by omega) with h | h | ⟨s, hs, rfl⟩
  · exact none_ (Or.inl h)
  · exact none_ (Or.inr h)
  · unfold f5_total f6_total
    rw [sn_some hC hs, isS_some hM hv hs, isIn_eq]
    simp only [Option.bind_some, Option.elim_some, if_neg one_ne]
    rcases within_c a2 0 3 with ⟨h, h1, h2⟩ | ⟨h, h1⟩
    · rw [h]
      simp only [Option.bind_some]
      rw [if_neg one_ne, if_neg one_ne]
      obtain ⟨q, rfl, -, hq⟩ := within_nat (a := 0) (b := 3) (by decide) (by decide) h1 h2
      obtain ⟨r, h5, h6⟩ := tot hC hM hs (nI q) (by
        match q, hq with
        | 0, _ => exact Or.inl rfl
        | 1, _ => exact Or.inr (Or.inl rfl)
        | 2, _ => exact Or.inr (Or.inr (Or.inl rfl))
        | 3, _ => exact Or.inr (Or.inr (Or.inr rfl))) (fun w => some w) (fun w => some w) FU 0 0 (by omega) (by rw [FU_eq]; omega)
      exact ⟨r, h5, h6, hI⟩
    · rw [h]; exact ⟨_, rfl, rfl, hI⟩
theorem kep (hC : CI k ns nc nv nt tn ch S P N) (hM : MI ns nc nv nt tn bn S P M) (K K' : Int64 → Option Int64) : ∀ (n i : Nat) (a : Int64), i ≤ nt → nt < i + n → ∃ r, f5_kept_4 K S P n a (nI i) = K r ∧ f6_kept_4 K' M n a (nI i) = K' r := by
  have hb := hC.nt4
  intro n
  induction n with
  | zero => intro i a h1 h2; omega
  | succ n ih =>
    intro i a h1 h2
    rw [f5_kept_4, f6_kept_4, hC.c7, hM.cnt.2.2.2]
    rcases Nat.lt_or_ge i nt with hi | hi
    · rw [if_neg (nI_ge hi (by omega)), if_neg (nI_ge hi (by omega)), ix_nI (by omega) (by decide), of10 hM hb hi, of11 hM hb hi]
      simp only [Option.bind_some, lt, hC.t1 hi]
      rw [nI_1]
      exact ih (i + 1) _ (by omega) (by omega)
    · have : i = nt := by omega
      subst this
      rw [if_pos (Int32.le_refl _), if_pos (Int32.le_refl _)]
      exact ⟨a, rfl, rfl⟩
theorem B_kept_ok : B_kept Inv := by
  rintro k S P N M hk ⟨ns, nc, nv, nt, tn, bn, ch, hC, hM, hR⟩
  have hI : Inv (k + 1) S P N M := Inv_up _ _ _ _ _ ⟨ns, nc, nv, nt, tn, bn, ch, hC, hM, hR⟩
  have hb := hC.nt4
  obtain ⟨r, h5, h6⟩ := kep hC hM (fun w => some w) (fun w => some w) FU 0 0 (by omega) (by rw [FU_eq]; omega)
  exact ⟨r, h5, h6, hI⟩
end LOOPS
