/-! audit -/
section AUD
variable {k ns nc nv nt tn bn : Nat} {ch : Nat → Nat → List Nat} {S : TS} {P : TP} {N : TN} {M : TS} {A : Nat → Nat → Int32} {me : Nat}
def AH (ns nc nv nt : Nat) (S : TS) (P : TP) (M : TS) (me : Nat) (A : Nat → Nat → Int32) : Prop := (MI_cnt ns nc nv nt M) ∧ (MI_ship ns S M) ∧ (MI_cab nc S P M) ∧ (MI_sail nv S P M) ∧ (∀ t q, t < nt → q < 13 → f0_number S P me t (nI q) = some (A q t)) ∧ (∀ t q, t < nt → q < 13 → f6_of M (nI t) (nI q) = some (A q t)) ∧ (∀ t, t < nt → A 0 t = nI (sl P t)) ∧ (∀ t, t < nt → A 1 t = S 402 t) ∧ (∀ t, t < nt → A 3 t = S 404 t)
theorem AH.cnt (h : AH ns nc nv nt S P M me A) : MI_cnt ns nc nv nt M := h.1
theorem AH.ship (h : AH ns nc nv nt S P M me A) : MI_ship ns S M := h.2.1
theorem AH.cab (h : AH ns nc nv nt S P M me A) : MI_cab nc S P M := h.2.2.1
theorem AH.sail (h : AH ns nc nv nt S P M me A) : MI_sail nv S P M := h.2.2.2.1
theorem AH.n5 (h : AH ns nc nv nt S P M me A) : ∀ t q, t < nt → q < 13 → f0_number S P me t (nI q) = some (A q t) := h.2.2.2.2.1
theorem AH.n6 (h : AH ns nc nv nt S P M me A) : ∀ t q, t < nt → q < 13 → f6_of M (nI t) (nI q) = some (A q t) := h.2.2.2.2.2.1
theorem AH.a0 (h : AH ns nc nv nt S P M me A) : ∀ t, t < nt → A 0 t = nI (sl P t) := h.2.2.2.2.2.2.1
theorem AH.a1 (h : AH ns nc nv nt S P M me A) : ∀ t, t < nt → A 1 t = S 402 t := h.2.2.2.2.2.2.2.1
theorem AH.a3 (h : AH ns nc nv nt S P M me A) : ∀ t, t < nt → A 3 t = S 404 t := h.2.2.2.2.2.2.2.2
theorem aAb (hC : CI k ns nc nv nt tn ch S P N) (h : AH ns nc nv nt S P M me A) {t s : Nat} (ht : t < nt) (hs : s < nv) : f6_isAboard M (nI t) (nI s) = some (if sl P t = s ∧ A 4 t = 3 then 1 else 0) := by
  have hv := hC.nv6
  have hsl := hC.t5 ht
  unfold f6_isAboard
  rw [show f6_of M (nI t) 0 = some (A 0 t) from h.n6 t 0 ht (by decide), show f6_of M (nI t) 4 = some (A 4 t) from h.n6 t 4 ht (by decide), h.a0 t ht]
  simp only [Option.bind_some]
  by_cases h1 : sl P t = s
  · rw [if_pos (by rw [h1])]
    by_cases h2 : A 4 t = 3
    · rw [if_pos h2, if_pos ⟨h1, h2⟩]
    · rw [if_neg h2, if_neg (fun h => h2 h.2)]
  · rw [if_neg (fun e => h1 (nI_inj (by omega) (by omega) e)), if_neg (fun h => h1 h.1)]
theorem aPl (hC : CI k ns nc nv nt tn ch S P N) (h : AH ns nc nv nt S P M me A) {t0 : Nat} (ht0 : t0 < nt) (hp : (A 8 t0 + A 1 t0).toInt64 = (A 8 t0).toInt64 + (A 1 t0).toInt64) (K K' : Option Int32) : ∀ (n i : Nat), i ≤ nt → nt < i + n → (f5_placeAgrees_103 K S P me t0 n (nI i) = K ∧ f6_isPlaceRight_131 K' M (nI t0) (nI (sl P t0)) n (nI i) = K') ∨ (f5_placeAgrees_103 K S P me t0 n (nI i) = some 0 ∧ f6_isPlaceRight_131 K' M (nI t0) (nI (sl P t0)) n (nI i) = some 0) := by
  have hb := hC.nt4
  have hv := hC.nv6
  intro n
  induction n with
  | zero => intro i h1 h2; omega
  | succ n ih =>
    intro i h1 h2
    rw [f5_placeAgrees_103, f6_isPlaceRight_131, hC.c7, h.cnt.2.2.2]
    rcases Nat.lt_or_ge i nt with hi | hi
    · rw [if_neg (nI_ge hi (by omega)), if_neg (nI_ge hi (by omega)), ix_nI (by omega) (by decide)]
      have next := ih (i + 1) (by omega) (by omega)
      unfold f5_overlap
      simp only [Option.bind_some, lt, hC.t1 hi, hC.t4 hi, hC.t4 ht0, some_eq, nI_1, show (nI i = nI t0) = (i = t0) from propext (nI_eq (by omega) (by omega)), show f0_number S P me i 4 = some (A 4 i) from h.n5 i 4 hi (by decide), show f0_number S P me i 6 = some (A 6 i) from h.n5 i 6 hi (by decide), show f0_number S P me i 7 = some (A 7 i) from h.n5 i 7 hi (by decide), show f0_number S P me i 8 = some (A 8 i) from h.n5 i 8 hi (by decide), show f0_number S P me t0 6 = some (A 6 t0) from h.n5 t0 6 ht0 (by decide), show f0_number S P me t0 7 = some (A 7 t0) from h.n5 t0 7 ht0 (by decide), show f0_number S P me t0 8 = some (A 8 t0) from h.n5 t0 8 ht0 (by decide), aAb hC h hi (hC.t5 ht0), show f6_of M (nI i) 6 = some (A 6 i) from h.n6 i 6 hi (by decide), show f6_of M (nI i) 7 = some (A 7 i) from h.n6 i 7 hi (by decide), show f6_of M (nI i) 8 = some (A 8 i) from h.n6 i 8 hi (by decide), show f6_of M (nI i) 1 = some (A 1 i) from h.n6 i 1 hi (by decide), show f6_of M (nI t0) 6 = some (A 6 t0) from h.n6 t0 6 ht0 (by decide), show f6_of M (nI t0) 7 = some (A 7 t0) from h.n6 t0 7 ht0 (by decide), show f6_of M (nI t0) 8 = some (A 8 t0) from h.n6 t0 8 ht0 (by decide), show f6_of M (nI t0) 1 = some (A 1 t0) from h.n6 t0 1 ht0 (by decide), lg_cmp_ge, lg_cmp_le, hp, ← h.a1 i hi, ← h.a1 t0 ht0]
      by_cases e0 : i = t0
      · simp only [if_pos e0]; exact next
      · simp only [if_neg e0]
        by_cases e1 : sl P i = sl P t0
        · simp only [if_pos e1]
          by_cases e2 : A 4 i = 3
          · have : sl P i = sl P t0 ∧ A 4 i = 3 := ⟨e1, e2⟩
            simp only [if_pos e2, if_pos this, if_neg one_ne]
            by_cases e3 : A 6 i = A 6 t0
            · simp only [if_pos e3]
              by_cases e4 : A 7 i = A 7 t0
              · simp only [if_pos e4]
                by_cases e5 : (A 8 t0).toInt64 + (A 1 t0).toInt64 ≤ (A 8 i).toInt64
                · simp only [if_pos e5, Option.bind_some, if_true]; exact next
                · simp only [if_neg e5]
                  by_cases e6 : (A 8 i).toInt64 + (A 1 i).toInt64 ≤ (A 8 t0).toInt64
                  · simp only [if_pos e6, Option.bind_some, if_true]; exact next
                  · simp only [if_neg e6, Option.bind_some, if_neg one_ne]; exact Or.inr ⟨by simp, by simp⟩
              · simp only [if_neg e4, Option.bind_some, if_true]; exact next
            · simp only [if_neg e3, Option.bind_some, if_true]; exact next
          · have : ¬ (sl P i = sl P t0 ∧ A 4 i = 3) := fun q => e2 q.2
            simp only [if_neg e2, if_neg this, Option.bind_some, if_true]; exact next
        · have : ¬ (sl P i = sl P t0 ∧ A 4 i = 3) := fun q => e1 q.1
          simp only [if_neg e1, if_neg this, if_true]; exact next
    · have : i = nt := by omega
      subst this
      rw [if_pos (Int32.le_refl _), if_pos (Int32.le_refl _)]
      exact Or.inl ⟨rfl, rfl⟩
theorem hasLane5 (hC : CI k ns nc nv nt tn ch S P N) {i : Nat} (hi : i < ns) (a b : Int32) : (f3_hasLane S P i a b = some 1 ∧ f5_within a 0 (S 301 i - 1) = some 1 ∧ f5_within b 0 (S 302 i - 1) = some 1 ∧ ∃ d l : Nat, a = nI d ∧ b = nI l ∧ d < nn (S 301 i) ∧ l < nn (S 302 i)) ∨ (f3_hasLane S P i a b = some 0 ∧ (f5_within a 0 (S 301 i - 1) = some 0 ∨ f5_within a 0 (S 301 i - 1) = some 1 ∧ f5_within b 0 (S 302 i - 1) = some 0)) := by
  obtain ⟨d, l, n, h1, h2, h3, b1, b2, b3, b4, -⟩ := (hC.ship i hi).2.2.2.1
  unfold f3_hasLane
  rw [h1, h2, nn_nI (by omega), nn_nI (by omega)]
  rcases pk_ix a (n := d) (by omega) with h | h | ⟨x, hx, rfl⟩
  · exact Or.inr ⟨if_pos h, Or.inl (within_f (Or.inl h))⟩
  · refine Or.inr ⟨?_, Or.inl (within_f (Or.inr (by rw [sub1_lt (by omega)]; exact h)))⟩
    rw [if_neg (show ¬ a < 0 by
      obtain h' := (Int32.le_iff_toInt_le).mp h
      rw [nI_toInt (by omega)] at h'
      rw [Int32.lt_iff_toInt_lt, show (0 : Int32).toInt = 0 from rfl]; omega), if_pos h]
  · have w1 : f5_within (nI x) 0 (nI d - 1) = some 1 := within_t (nI_pos (by omega)) (by rw [sub1_lt (by omega)]; exact nI_ge hx (by omega))
    rw [if_neg (nI_pos (by omega)), if_neg (nI_ge hx (by omega)), w1]
    rcases pk_ix b (n := l) (by omega) with h | h | ⟨y, hy, rfl⟩
    · exact Or.inr ⟨if_pos h, Or.inr ⟨rfl, within_f (Or.inl h)⟩⟩
    · refine Or.inr ⟨?_, Or.inr ⟨rfl, within_f (Or.inr (by rw [sub1_lt (by omega)]; exact h))⟩⟩
      rw [if_neg (show ¬ b < 0 by
        obtain h' := (Int32.le_iff_toInt_le).mp h
        rw [nI_toInt (by omega)] at h'
        rw [Int32.lt_iff_toInt_lt, show (0 : Int32).toInt = 0 from rfl]; omega), if_pos h]
    · left
      rw [if_neg (nI_pos (by omega)), if_neg (nI_ge hy (by omega))]
      exact ⟨rfl, rfl, within_t (nI_pos (by omega)) (by rw [sub1_lt (by omega)]; exact nI_ge hy (by omega)), x, y, rfl, rfl, hx, hy⟩
theorem aPlc (hC : CI k ns nc nv nt tn ch S P N) (h : AH ns nc nv nt S P M me A) {t0 : Nat} (ht0 : t0 < nt) : (f5_placeAgrees S P me t0 = some 1 ∧ f6_isPlaceRight M (nI t0) (nI (sl P t0)) (A 4 t0) = some 1) ∨ (f5_placeAgrees S P me t0 = some 0 ∧ f6_isPlaceRight M (nI t0) (nI (sl P t0)) (A 4 t0) = some 0) := by
  have hv := hC.nv6
  have hns := hC.ns1
  have hb := hC.nt4
  have hsl := hC.t5 ht0
  have hsh := hC.s3 hsl
  unfold f5_placeAgrees f6_isPlaceRight
  simp only [show f0_number S P me t0 4 = some (A 4 t0) from h.n5 t0 4 ht0 (by decide), show f0_number S P me t0 6 = some (A 6 t0) from h.n5 t0 6 ht0 (by decide), show f0_number S P me t0 7 = some (A 7 t0) from h.n5 t0 7 ht0 (by decide), show f0_number S P me t0 8 = some (A 8 t0) from h.n5 t0 8 ht0 (by decide), show f6_of M (nI t0) 6 = some (A 6 t0) from h.n6 t0 6 ht0 (by decide), show f6_of M (nI t0) 7 = some (A 7 t0) from h.n6 t0 7 ht0 (by decide), show f6_of M (nI t0) 8 = some (A 8 t0) from h.n6 t0 8 ht0 (by decide), show f6_of M (nI t0) 1 = some (A 1 t0) from h.n6 t0 1 ht0 (by decide), Option.bind_some, lt, hC.t4 ht0, hC.s2 hsl, ix_nI (show sl P t0 < 60 by omega) (by decide), (h.sail _ hsl).1, ix_nI (show vs P (sl P t0) < 12 by omega) (by decide), (h.ship _ hsh).1, (h.ship _ hsh).2.1, (h.ship _ hsh).2.2.1, isIn_eq]
  by_cases e : A 4 t0 = 3
  · simp only [if_pos e]
    rcases hasLane5 hC hsh (A 6 t0) (A 7 t0) with ⟨g1, g2, g3, -⟩ | ⟨g1, g2 | ⟨g2, g3⟩⟩
    · rw [g1, g2, g3, h.a1 t0 ht0]
      simp only [Option.bind_some, if_neg one_ne]
      rcases within_c (A 8 t0) 0 (S 303 (vs P (sl P t0)) - S 402 t0) with ⟨w, w1, w2⟩ | ⟨w, -⟩
      · rw [w]
        simp only [Option.bind_some, if_neg one_ne]
        have hp : (A 8 t0 + A 1 t0).toInt64 = (A 8 t0).toInt64 + (A 1 t0).toInt64 := by
          obtain ⟨L, hL, l1, l2⟩ := (hC.tick t0 ht0).2.2.2.2.1
          obtain ⟨d, l, n, -, -, h3, -, -, -, -, n1, n2, -⟩ := (hC.ship _ hsh).2.2.2.1
          rw [h3, hL] at w2
          have hLn : L ≤ n := by
            rcases Nat.lt_or_ge n L with g | g
            · have g' := pk_sneg (a := n) (b := L) (by omega) g
              rw [Int32.lt_iff_toInt_lt] at w1 w2 g'
              omega
            · exact g
          rw [pk_sub hLn] at w2
          obtain ⟨p, hp, -, hp2⟩ := within_nat (a := 0) (b := n - L) (by omega) (by omega) w1 w2
          rw [h.a1 t0 ht0, hL, hp, nI_add, nI_l (by omega), nI_l (by omega), nI_l (by omega), lN_add]
        rcases aPl hC h ht0 hp (some 1) (some 1) FU 0 (by omega) (by rw [FU_eq]; omega) with ⟨q1, q2⟩ | ⟨q1, q2⟩
        · exact Or.inl ⟨q1, q2⟩
        · exact Or.inr ⟨q1, q2⟩
      · rw [w]; exact Or.inr ⟨rfl, rfl⟩
    · rw [g1, g2]; exact Or.inr ⟨rfl, rfl⟩
    · rw [g1, g2, g3]; exact Or.inr ⟨rfl, rfl⟩
  · simp only [if_neg e]
    repeat' split
    all_goals first | exact Or.inl ⟨rfl, rfl⟩ | exact Or.inr ⟨rfl, rfl⟩
theorem aMay (h : AH ns nc nv nt S P M me A) {t : Nat} (ht : t < nt) : f0_mayHaveCabin S P me t = some (if A 4 t = 3 ∨ A 4 t = 6 then 1 else 0) := by
  unfold f0_mayHaveCabin
  rw [show f0_number S P me t 4 = some (A 4 t) from h.n5 t 4 ht (by decide)]
  simp only [Option.bind_some]
  by_cases h1 : A 4 t = 3
  · rw [if_pos h1, if_pos (Or.inl h1)]
  · rw [if_neg h1]
    by_cases h2 : A 4 t = 6
    · rw [if_pos h2, if_pos (Or.inr h2)]
    · rw [if_neg h2, if_neg (fun q => q.elim h1 h2)]
theorem aCb (hC : CI k ns nc nv nt tn ch S P N) (h : AH ns nc nv nt S P M me A) {t0 : Nat} (ht0 : t0 < nt) (c : Int32) (K K' : Option Int32) : ∀ (n i : Nat), i ≤ nt → nt < i + n → (f5_cabinAgrees_86 K S P me t0 c n (nI i) = K ∧ f6_isCabinRight_89 K' M (nI t0) (nI (sl P t0)) c n (nI i) = K') ∨ (f5_cabinAgrees_86 K S P me t0 c n (nI i) = some 0 ∧ f6_isCabinRight_89 K' M (nI t0) (nI (sl P t0)) c n (nI i) = some 0) := by
  have hb := hC.nt4
  have hv := hC.nv6
  have hs0 := hC.t5 ht0
  intro n
  induction n with
  | zero => intro i h1 h2; omega
  | succ n ih =>
    intro i h1 h2
    rw [f5_cabinAgrees_86, f6_isCabinRight_89, hC.c7, h.cnt.2.2.2]
    rcases Nat.lt_or_ge i nt with hi | hi
    · have hsi := hC.t5 hi
      rw [if_neg (nI_ge hi (by omega)), if_neg (nI_ge hi (by omega)), ix_nI (by omega) (by decide)]
      have next := ih (i + 1) (by omega) (by omega)
      simp only [Option.bind_some, lt, hC.t1 hi, hC.t4 hi, hC.t4 ht0, some_eq, nI_1, show (nI i = nI t0) = (i = t0) from propext (nI_eq (by omega) (by omega)), aMay h hi, show f0_number S P me i 9 = some (A 9 i) from h.n5 i 9 hi (by decide), show f6_of M (nI i) 0 = some (A 0 i) from h.n6 i 0 hi (by decide), show f6_of M (nI i) 4 = some (A 4 i) from h.n6 i 4 hi (by decide), show f6_of M (nI i) 9 = some (A 9 i) from h.n6 i 9 hi (by decide), h.a0 i hi, show (nI (sl P i) = nI (sl P t0)) = (sl P i = sl P t0) from propext (nI_eq (by omega) (by omega))]
      by_cases e0 : i = t0
      · simp only [if_pos e0]; exact next
      · simp only [if_neg e0]
        by_cases e1 : sl P i = sl P t0
        · simp only [if_pos e1]
          have both : (((if A 9 i = c then some 0 else f5_cabinAgrees_86 K S P me t0 c n (nI (i + 1))) = K ∧ (if A 9 i = c then some 0 else f6_isCabinRight_89 K' M (nI t0) (nI (sl P t0)) c n (nI (i + 1))) = K') ∨ ((if A 9 i = c then some 0 else f5_cabinAgrees_86 K S P me t0 c n (nI (i + 1))) = some 0 ∧ (if A 9 i = c then some 0 else f6_isCabinRight_89 K' M (nI t0) (nI (sl P t0)) c n (nI (i + 1))) = some 0)) := by
            by_cases e9 : A 9 i = c
            · rw [if_pos e9, if_pos e9]; exact Or.inr ⟨rfl, rfl⟩
            · rw [if_neg e9, if_neg e9]; exact next
          by_cases e3 : A 4 i = 3
          · have : A 4 i = 3 ∨ A 4 i = 6 := Or.inl e3
            simp only [if_pos e3, if_pos this, if_neg one_ne]; exact both
          · by_cases e6 : A 4 i = 6
            · have : A 4 i = 3 ∨ A 4 i = 6 := Or.inr e6
              simp only [if_neg e3, if_pos e6, if_pos this, if_neg one_ne]; exact both
            · have : ¬ (A 4 i = 3 ∨ A 4 i = 6) := fun q => q.elim e3 e6
              simp only [if_neg e3, if_neg e6, if_neg this, if_true]; exact next
        · simp only [if_neg e1]; exact next
    · have : i = nt := by omega
      subst this
      rw [if_pos (Int32.le_refl _), if_pos (Int32.le_refl _)]
      exact Or.inl ⟨rfl, rfl⟩
theorem aCbn (hC : CI k ns nc nv nt tn ch S P N) (h : AH ns nc nv nt S P M me A) {t0 : Nat} (ht0 : t0 < nt) : (f5_cabinAgrees S P me t0 = some 1 ∧ f6_isCabinRight M (nI t0) (nI (sl P t0)) (A 4 t0) = some 1) ∨ (f5_cabinAgrees S P me t0 = some 0 ∧ f6_isCabinRight M (nI t0) (nI (sl P t0)) (A 4 t0) = some 0) := by
  have hv := hC.nv6
  have hns := hC.ns1
  have hb := hC.nt4
  have hn := hC.nc1
  have hsl := hC.t5 ht0
  have hsh := hC.s3 hsl
  unfold f5_cabinAgrees f6_isCabinRight
  simp only [aMay h ht0, show f0_number S P me t0 9 = some (A 9 t0) from h.n5 t0 9 ht0 (by decide), show f6_of M (nI t0) 3 = some (A 3 t0) from h.n6 t0 3 ht0 (by decide), show f6_of M (nI t0) 9 = some (A 9 t0) from h.n6 t0 9 ht0 (by decide), h.a3 t0 ht0, Option.bind_some, lt, hC.t4 ht0, hC.s2 hsl, ix_nI (show sl P t0 < 60 by omega) (by decide), (h.sail _ hsl).1, isIn_eq, hC.c3, h.cnt.2.1]
  by_cases e : A 9 t0 = -1
  · simp only [if_pos e]; exact Or.inl ⟨by simp, by simp⟩
  · simp only [if_neg e]
    have both : ((if S 404 t0 = 0 then some 0 else (f5_within (A 9 t0) 0 (nI nc - 1)).bind fun v5 => if v5 = 0 then some (0 : Int32) else (ix (A 9 t0) 120).bind fun j7 => (P 800 0 j7).bind fun t9 => if P 100 t9 0 = some (vs P (sl P t0)) then (if S 404 t0 ≤ S 101 t9 then f5_cabinAgrees_86 (some 1) S P me t0 (A 9 t0) FU 0 else some 0) else some 0) = some 1 ∧ (if S 404 t0 = 0 then some 0 else (f5_within (A 9 t0) 0 (nI nc - 1)).bind fun v5 => if v5 = 0 then some (0 : Int32) else (ix (A 9 t0) 120).bind fun j7 => if M 2400 j7 = nI (vs P (sl P t0)) then ((ix (A 9 t0) 120).bind fun j9 => if S 404 t0 ≤ M 2500 j9 then f6_isCabinRight_89 (some 1) M (nI t0) (nI (sl P t0)) (A 9 t0) FU 0 else some 0) else some 0) = some 1) ∨ ((if S 404 t0 = 0 then some 0 else (f5_within (A 9 t0) 0 (nI nc - 1)).bind fun v5 => if v5 = 0 then some (0 : Int32) else (ix (A 9 t0) 120).bind fun j7 => (P 800 0 j7).bind fun t9 => if P 100 t9 0 = some (vs P (sl P t0)) then (if S 404 t0 ≤ S 101 t9 then f5_cabinAgrees_86 (some 1) S P me t0 (A 9 t0) FU 0 else some 0) else some 0) = some 0 ∧ (if S 404 t0 = 0 then some 0 else (f5_within (A 9 t0) 0 (nI nc - 1)).bind fun v5 => if v5 = 0 then some (0 : Int32) else (ix (A 9 t0) 120).bind fun j7 => if M 2400 j7 = nI (vs P (sl P t0)) then ((ix (A 9 t0) 120).bind fun j9 => if S 404 t0 ≤ M 2500 j9 then f6_isCabinRight_89 (some 1) M (nI t0) (nI (sl P t0)) (A 9 t0) FU 0 else some 0) else some 0) = some 0) := by
      by_cases e4 : S 404 t0 = 0
      · simp only [if_pos e4]; exact Or.inr ⟨by simp, by simp⟩
      · simp only [if_neg e4]
        rcases pk_ix (A 9 t0) (n := nc) (by omega) with g | g | ⟨c, hc, g⟩
        · rw [within_f (Or.inl g)]; exact Or.inr ⟨rfl, rfl⟩
        · rw [within_f (Or.inr (by rw [sub1_lt (by omega)]; exact g))]; exact Or.inr ⟨rfl, rfl⟩
        · have hcs := (hC.cab c hc).2.2.1
          rw [g, within_t (nI_pos (by omega)) (by rw [sub1_lt (by omega)]; exact nI_ge hc (by omega)), ix_nI (show c < 120 by omega) (by decide)]
          simp only [Option.bind_some, if_neg one_ne, hC.b8 hc, hC.b1 hc, (h.cab c hc).1, (h.cab c hc).2, some_eq, show (nI (cs P c) = nI (vs P (sl P t0))) = (cs P c = vs P (sl P t0)) from propext (nI_eq (by omega) (by omega))]
          by_cases e5 : cs P c = vs P (sl P t0)
          · simp only [if_pos e5]
            by_cases e6 : S 404 t0 ≤ S 101 c
            · simp only [if_pos e6]
              exact aCb hC h ht0 (nI c) (some 1) (some 1) FU 0 (by omega) (by rw [FU_eq]; omega)
            · simp only [if_neg e6]; exact Or.inr ⟨by simp, by simp⟩
          · simp only [if_neg e5]; exact Or.inr ⟨by simp, by simp⟩
    by_cases e3 : A 4 t0 = 3
    · have : A 4 t0 = 3 ∨ A 4 t0 = 6 := Or.inl e3
      simp only [if_pos e3, if_pos this, if_neg one_ne]; exact both
    · by_cases e6 : A 4 t0 = 6
      · have : A 4 t0 = 3 ∨ A 4 t0 = 6 := Or.inr e6
        simp only [if_neg e3, if_pos e6, if_pos this, if_neg one_ne]; exact both
      · have : ¬ (A 4 t0 = 3 ∨ A 4 t0 = 6) := fun q => q.elim e3 e6
        simp only [if_neg e3, if_neg e6, if_neg this, if_true]; exact Or.inr ⟨by simp, by simp⟩
end AUD
