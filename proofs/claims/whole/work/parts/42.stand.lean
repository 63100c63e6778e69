/-! who may stand; lane -/
section STAND
variable {k ns nc nv nt tn bn : Nat} {ch : Nat → Nat → List Nat} {S : TS} {P : TP} {N : TN} {M : TS}
theorem walkF (K : Int32 → Option Int32) : ∀ (L : List Nat) (n y : Nat) (r : Option Nat), linked (P 415) r L → (∀ t ∈ L, ∃ x : Nat, S 402 t = nI x ∧ 20 ≤ x ∧ x ≤ 250) → total (S 402) L ≤ y → L.length < n → f3_freePlaces_13 K S P n (nI y) r = K (nI (y - total (S 402) L)) := by
  intro L
  induction L with
  | nil =>
    intro n y r h1 h3 h4 h5
    cases n with
    | zero => omega
    | succ n => have h1 : r = none := h1; subst h1; rfl
  | cons a L ih =>
    intro n y r h1 h3 h4 h5
    cases n with
    | zero => omega
    | succ n =>
      obtain ⟨h1, h1'⟩ := h1
      subst h1
      obtain ⟨x, hx, hx1, hx2⟩ := h3 a (List.mem_cons_self ..)
      simp only [total] at h4 ⊢
      rw [hx, nn_nI (by omega)] at h4 ⊢
      rw [f3_freePlaces_13]
      simp only [Option.elim_some, lt]
      rw [hx, pk_sub (by omega), ih n (y - x) (P 415 a 0) h1' (fun t ht => h3 t (List.mem_cons_of_mem _ ht)) (by omega) (by simp only [List.length_cons] at h5; omega)]
      rw [Nat.sub_sub]
theorem walkL (i : Nat) (K : Int32 → Int32 → Option Int32) : ∀ (L : List Nat) (n p : Nat) (r : Option Nat), linked (P 415) r L → contig (S 410) (S 402) p L → (∀ t ∈ L, ∃ x : Nat, S 402 t = nI x ∧ 20 ≤ x ∧ x ≤ 250) → p + total (S 402) L ≤ 2000 → L.length < n → f3_longestGap_13 K S P i n 0 (nI p) r = K 0 (nI (p + total (S 402) L)) := by
  intro L
  induction L with
  | nil =>
    intro n y r h1 h2 h3 h4 h5
    cases n with
    | zero => omega
    | succ n => have h1 : r = none := h1; subst h1; rfl
  | cons a L ih =>
    intro n p r h1 h2 h3 h4 h5
    cases n with
    | zero => omega
    | succ n =>
      obtain ⟨h1, h1'⟩ := h1
      obtain ⟨h2, h2'⟩ := h2
      subst h1
      obtain ⟨x, hx, hx1, hx2⟩ := h3 a (List.mem_cons_self ..)
      simp only [total] at h4 ⊢
      rw [hx, nn_nI (by omega)] at h4 h2' ⊢
      rw [f3_longestGap_13]
      simp only [Option.elim_some, lt]
      rw [h2, hx, pk_sub (Nat.le_refl _), Nat.sub_self, if_neg (show ¬ (0 : Int32) < nI 0 by decide), nI_add, ih n (p + x) (P 415 a 0) h1' h2' (fun t ht => h3 t (List.mem_cons_of_mem _ ht)) (by omega) (by simp only [List.length_cons] at h5; omega), Nat.add_assoc]
theorem walkG (i : Nat) {c : Nat} (hc : 1 ≤ c ∧ c ≤ 1000) (K : Int32 → Option Int32) : ∀ (L : List Nat) (n p : Nat) (r : Option Nat), linked (P 415) r L → contig (S 410) (S 402) p L → (∀ t ∈ L, ∃ x : Nat, S 402 t = nI x ∧ 20 ≤ x ∧ x ≤ 250) → p + total (S 402) L ≤ 2000 → L.length < n → f3_firstGap_11 K S P i (nI c) n (nI p) r = K (nI (p + total (S 402) L)) := by
  intro L
  induction L with
  | nil =>
    intro n y r h1 h2 h3 h4 h5
    cases n with
    | zero => omega
    | succ n => have h1 : r = none := h1; subst h1; rfl
  | cons a L ih =>
    intro n p r h1 h2 h3 h4 h5
    cases n with
    | zero => omega
    | succ n =>
      obtain ⟨h1, h1'⟩ := h1
      obtain ⟨h2, h2'⟩ := h2
      subst h1
      obtain ⟨x, hx, hx1, hx2⟩ := h3 a (List.mem_cons_self ..)
      simp only [total] at h4 ⊢
      rw [hx, nn_nI (by omega)] at h4 h2' ⊢
      rw [f3_firstGap_11]
      simp only [Option.elim_some, lt]
      rw [h2, hx, pk_sub (Nat.le_refl _), Nat.sub_self, if_pos (show nI 0 < nI c from nI_lt (by omega) (by omega)), nI_add, ih n (p + x) (P 415 a 0) h1' h2' (fun t ht => h3 t (List.mem_cons_of_mem _ ht)) (by omega) (by simp only [List.length_cons] at h5; omega), Nat.add_assoc]
theorem free5 (hC : CI k ns nc nv nt tn ch S P N) {i : Nat} (hi : i < ns) {d l : Nat} (hd : d < nn (S 301 i)) (hl : l < nn (S 302 i)) : f3_freePlaces S P i (nI d) (nI l) = some (nI (nn (S 303 i) - total (S 402) (ch i (d * nn (S 302 i) + l)))) := by
  obtain ⟨D, W, z, h1, h2, h3, h4, e1, e2, e3, e4, b1, b2, b3, b4, b5, b6, hm⟩ := dims hC.ship hi
  obtain ⟨k1, k2, k3, k4, k5, k6, k7⟩ := lane hC hi hd hl
  unfold f3_freePlaces
  rw [nb hC.ship hi hd hl, Option.bind_some, show S 303 i = nI (nn (S 303 i)) by rw [e3, h3], walkF (fun w5 => some w5) _ FU _ _ k1 k6 k3 (by rw [FU_eq]; omega), nn_nI (by omega)]
theorem long5 (hC : CI k ns nc nv nt tn ch S P N) {i : Nat} (hi : i < ns) {d l : Nat} (hd : d < nn (S 301 i)) (hl : l < nn (S 302 i)) : f3_longestGap S P i (nI d) (nI l) = some (nI (nn (S 303 i) - total (S 402) (ch i (d * nn (S 302 i) + l)))) := by
  obtain ⟨D, W, z, h1, h2, h3, h4, e1, e2, e3, e4, b1, b2, b3, b4, b5, b6, hm⟩ := dims hC.ship hi
  obtain ⟨k1, k2, k3, k4, k5, k6, k7⟩ := lane hC hi hd hl
  unfold f3_longestGap
  rw [nb hC.ship hi hd hl, Option.bind_some]
  have := walkL (S := S) (P := P) i (fun w6 w7 => lt (if w6 < S 303 i - w7 then S 303 i - w7 else w6) fun x8 => some x8) _ FU 0 _ k1 k2 k6 (by omega) (by rw [FU_eq]; omega)
  refine this.trans ?_
  rw [Nat.zero_add]
  simp only [lt]
  rw [e3] at k3 ⊢
  rw [h3, pk_sub k3]
  by_cases g : total (S 402) (ch i (d * nn (S 302 i) + l)) < z
  · rw [if_pos (show (0 : Int32) < nI _ from nI_lt (a := 0) (by omega) (by omega))]
  · rw [show z - total (S 402) (ch i (d * nn (S 302 i) + l)) = 0 by omega]; rfl
theorem gap5 (hC : CI k ns nc nv nt tn ch S P N) {i : Nat} (hi : i < ns) {d l : Nat} (hd : d < nn (S 301 i)) (hl : l < nn (S 302 i)) {c : Nat} (hc : 1 ≤ c ∧ c ≤ 1000) : f3_firstGap S P i (nI d) (nI l) (nI c) = some (if total (S 402) (ch i (d * nn (S 302 i) + l)) + c ≤ nn (S 303 i) then nI (total (S 402) (ch i (d * nn (S 302 i) + l))) else -1) := by
  obtain ⟨D, W, z, h1, h2, h3, h4, e1, e2, e3, e4, b1, b2, b3, b4, b5, b6, hm⟩ := dims hC.ship hi
  obtain ⟨k1, k2, k3, k4, k5, k6, k7⟩ := lane hC hi hd hl
  unfold f3_firstGap
  rw [nb hC.ship hi hd hl, Option.bind_some]
  have := walkG (S := S) (P := P) i hc (fun w5 => if S 303 i - w5 < nI c then some (-1) else some w5) _ FU 0 _ k1 k2 k6 (by omega) (by rw [FU_eq]; omega)
  refine this.trans ?_
  rw [Nat.zero_add]
  rw [e3] at k3 ⊢
  rw [h3, pk_sub k3]
  by_cases g : total (S 402) (ch i (d * nn (S 302 i) + l)) + c ≤ z
  · rw [if_pos g, if_neg (nI_nlt (by omega) (by omega))]
  · rw [if_neg g, if_pos (nI_lt (by omega) (by omega))]
theorem tall14 (i : Nat) (z : Int32) (K : Option Int32) : ∀ (L : List Nat) (n : Nat) (r : Option Nat), linked (P 415) r L → L.length < n → (∃ t ∈ L, S 403 t = 2 ∧ f3_tallStandsUnder_14 K S P i z n r = some 1) ∨ ((∀ t ∈ L, ¬ S 403 t = 2) ∧ f3_tallStandsUnder_14 K S P i z n r = K) := by
  intro L
  induction L with
  | nil =>
    intro n r h1 h5
    cases n with
    | zero => omega
    | succ n => have h1 : r = none := h1; subst h1; exact Or.inr ⟨fun t ht => absurd ht (by simp), rfl⟩
  | cons a L ih =>
    intro n r h1 h5
    cases n with
    | zero => omega
    | succ n =>
      obtain ⟨h1, h1'⟩ := h1
      subst h1
      rw [f3_tallStandsUnder_14]
      simp only [Option.elim_some, lt]
      by_cases g : S 403 a = 2
      · rw [if_pos g]; exact Or.inl ⟨a, List.mem_cons_self .., g, rfl⟩
      · rw [if_neg g]
        rcases ih n (P 415 a 0) h1' (by simp only [List.length_cons] at h5; omega) with ⟨t, ht, q⟩ | ⟨q1, q2⟩
        · exact Or.inl ⟨t, List.mem_cons_of_mem _ ht, q⟩
        · refine Or.inr ⟨fun t ht => ?_, q2⟩
          rcases List.mem_cons.mp ht with e | e
          · rw [e]; exact g
          · exact q1 t e
theorem tallU (hC : CI k ns nc nv nt tn ch S P N) {i : Nat} (hi : i < ns) (K : Option Int32) : ∀ (n y : Nat), y ≤ 2 → 2 < y + n → (∃ t l : Nat, t < nt ∧ S 406 t = 3 ∧ st P t = i ∧ S 408 t = nI 0 ∧ S 409 t = nI l ∧ l < 2 ∧ S 403 t = 2 ∧ f3_tallStandsUnder_2 K S P i n (nI y) = some 1) ∨ ((∀ t l : Nat, t < nt → S 406 t = 3 → st P t = i → S 408 t = nI 0 → S 409 t = nI l → y ≤ l → l < 2 → ¬ S 403 t = 2) ∧ f3_tallStandsUnder_2 K S P i n (nI y) = K) := by
  obtain ⟨D, W, z, h1, h2, h3, h4, e1, e2, e3, e4, b1, b2, b3, b4, b5, b6, hm⟩ := dims hC.ship hi
  intro n
  induction n with
  | zero => intro y a b; omega
  | succ n ih =>
    intro y a b
    rw [f3_tallStandsUnder_2]
    rcases Nat.lt_or_ge y 2 with hy | hy
    · rw [if_neg (show ¬ (2 : Int32) ≤ nI y from nI_ge (b := 2) hy (by decide)), nI_1]
      have next := ih (y + 1) (by omega) (by omega)
      have step : (∀ t, t < nt → S 406 t = 3 → st P t = i → S 408 t = nI 0 → S 409 t = nI y → ¬ S 403 t = 2) → (∃ t l : Nat, t < nt ∧ S 406 t = 3 ∧ st P t = i ∧ S 408 t = nI 0 ∧ S 409 t = nI l ∧ l < 2 ∧ S 403 t = 2 ∧ f3_tallStandsUnder_2 K S P i n (nI (y + 1)) = some 1) ∨ ((∀ t l : Nat, t < nt → S 406 t = 3 → st P t = i → S 408 t = nI 0 → S 409 t = nI l → y ≤ l → l < 2 → ¬ S 403 t = 2) ∧ f3_tallStandsUnder_2 K S P i n (nI (y + 1)) = K) := by
        intro hno
        rcases next with g | ⟨g1, g2⟩
        · exact Or.inl g
        · refine Or.inr ⟨fun t l q1 q2 q3 q4 q5 q6 q7 => ?_, g2⟩
          rcases Nat.eq_or_lt_of_le q6 with e | e
          · exact hno t q1 q2 q3 q4 (by rw [q5, e])
          · exact g1 t l q1 q2 q3 q4 q5 e q7
      by_cases hl : y < nn (S 302 i)
      · have hd : 0 < nn (S 301 i) := by rw [e1]; omega
        obtain ⟨k1, k2, k3, k4, k5, k6, k7⟩ := lane hC hi hd hl
        rw [show f3_nearestBow S P i 0 (nI y) = _ from nb hC.ship hi hd hl, Option.bind_some]
        rcases tall14 (S := S) i (nI y) (f3_tallStandsUnder_2 K S P i n (nI (y + 1))) _ FU _ k1 (by rw [FU_eq]; omega) with ⟨t, ht, q1, q2⟩ | ⟨q1, q2⟩
        · obtain ⟨x1, x2, x3, x4, x5⟩ := (chm hC hi hd hl t).mp ht
          exact Or.inl ⟨t, y, x1, x2, x3, x4, x5, hy, q1, q2⟩
        · rw [q2]
          exact step (fun t x1 x2 x3 x4 x5 => q1 t ((chm hC hi hd hl t).mpr ⟨x1, x2, x3, x4, x5⟩))
      · have : f3_hasLane S P i 0 (nI y) = some 0 := by
          unfold f3_hasLane
          rw [h1, h2, if_neg (by decide), if_neg (show ¬ nI D ≤ 0 from nI_nle (by omega) (by omega)), if_neg (nI_pos (by omega)), if_pos (nI_le (by rw [e2] at hl; omega) (by omega))]
        rw [nb0 this, Option.bind_some, show f3_tallStandsUnder_14 (f3_tallStandsUnder_2 K S P i n (nI (y + 1))) S P i (nI y) FU none = f3_tallStandsUnder_2 K S P i n (nI (y + 1)) from rfl]
        refine step (fun t x1 x2 x3 x4 x5 => ?_)
        obtain ⟨d', l', q1, q2, q3, q4⟩ := hC.dl t x1 x2
        rw [x3, e2] at q4
        rw [x5] at q2
        have := nI_inj (by omega) (by omega) q2
        omega
    · have : y = 2 := by omega
      subst this
      rw [if_pos (show (2 : Int32) ≤ nI 2 from Int32.le_refl _)]
      exact Or.inr ⟨fun t l _ _ _ _ _ a b => by omega, rfl⟩
theorem someD (hC : CI k ns nc nv nt tn ch S P N) {i : Nat} (hi : i < ns) (K : Option Int32) : ∀ (n y : Nat), y ≤ nn (S 302 i) → nn (S 302 i) < y + n → (∃ t, t < nt ∧ S 406 t = 3 ∧ st P t = i ∧ S 408 t = nI 1 ∧ f3_somethingOnDeckOne_2 K S P i n (nI y) = some 1) ∨ ((∀ t l : Nat, t < nt → S 406 t = 3 → st P t = i → S 408 t = nI 1 → S 409 t = nI l → y ≤ l → l < nn (S 302 i) → False) ∧ f3_somethingOnDeckOne_2 K S P i n (nI y) = K) := by
  obtain ⟨D, W, z, h1, h2, h3, h4, e1, e2, e3, e4, b1, b2, b3, b4, b5, b6, hm⟩ := dims hC.ship hi
  intro n
  induction n with
  | zero => intro y a b; omega
  | succ n ih =>
    intro y a b
    rw [f3_somethingOnDeckOne_2]
    rcases Nat.lt_or_ge y (nn (S 302 i)) with hl | hy
    · rw [show S 302 i = nI (nn (S 302 i)) by rw [e2, h2], nn_nI (by omega), if_neg (nI_ge hl (by omega)), nI_1]
      have next := ih (y + 1) (by omega) (by omega)
      have step : (∀ t, t < nt → S 406 t = 3 → st P t = i → S 408 t = nI 1 → S 409 t = nI y → False) → (∃ t, t < nt ∧ S 406 t = 3 ∧ st P t = i ∧ S 408 t = nI 1 ∧ f3_somethingOnDeckOne_2 K S P i n (nI (y + 1)) = some 1) ∨ ((∀ t l : Nat, t < nt → S 406 t = 3 → st P t = i → S 408 t = nI 1 → S 409 t = nI l → y ≤ l → l < nn (S 302 i) → False) ∧ f3_somethingOnDeckOne_2 K S P i n (nI (y + 1)) = K) := by
        intro hno
        rcases next with g | ⟨g1, g2⟩
        · exact Or.inl g
        · refine Or.inr ⟨fun t l q1 q2 q3 q4 q5 q6 q7 => ?_, g2⟩
          rcases Nat.eq_or_lt_of_le q6 with e | e
          · exact hno t q1 q2 q3 q4 (by rw [q5, e])
          · exact g1 t l q1 q2 q3 q4 q5 e q7
      by_cases hd : 1 < nn (S 301 i)
      · obtain ⟨k1, k2, k3, k4, k5, k6, k7⟩ := lane hC hi hd hl
        rw [show f3_nearestBow S P i 1 (nI y) = _ from nb hC.ship hi hd hl, Option.bind_some]
        cases hL : ch i (1 * nn (S 302 i) + y) with
        | nil =>
          rw [hL] at k1
          have k1 : P 1400 i (1 * nn (S 302 i) + y) = none := k1
          rw [k1]
          refine step (fun t x1 x2 x3 x4 x5 => ?_)
          have := (chm hC hi hd hl t).mpr ⟨x1, x2, x3, x4, x5⟩
          rw [hL] at this
          exact absurd this (by simp)
        | cons t L =>
          rw [hL] at k1
          rw [k1.1]
          obtain ⟨x1, x2, x3, x4, x5⟩ := (chm hC hi hd hl t).mp (by rw [hL]; exact List.mem_cons_self ..)
          exact Or.inl ⟨t, x1, x2, x3, x4, rfl⟩
      · have : f3_hasLane S P i 1 (nI y) = some 0 := by
          unfold f3_hasLane
          rw [h1, h2, if_neg (by decide), if_pos (show nI D ≤ 1 from nI_le (b := 1) (by rw [e1] at hd; omega) (by decide))]
        rw [nb0 this, Option.bind_some]
        refine step (fun t x1 x2 x3 x4 x5 => ?_)
        obtain ⟨d', l', q1, q2, q3, q4⟩ := hC.dl t x1 x2
        rw [x3, e1] at q3
        rw [x4] at q1
        have := nI_inj (by omega) (by omega) q1
        rw [e1] at hd
        omega
    · have : y = nn (S 302 i) := by omega
      rw [this, if_pos (by rw [h2, nn_nI (by omega)]; exact Int32.le_refl _)]
      exact Or.inr ⟨fun t l _ _ _ _ _ a b => by omega, rfl⟩
def Bad (S : TS) (c3 : Int32) (k2 : Int32) (t : Nat) : Prop := (¬ k2 = 0 ∧ S 408 t = 1) ∨ (c3 = 1 ∧ S 408 t = 0 ∧ ¬ 2 ≤ S 409 t ∧ S 403 t = 2)
theorem ms73 (hC : CI k ns nc nv nt tn ch S P N) (hM : MI ns nc nv nt tn bn S P M) {s : Nat} (hs : s < nv) (c3 k2 : Int32) (K : Option Int32) : ∀ (n i : Nat), i ≤ nt → nt < i + n → (∃ t, t < nt ∧ sl P t = s ∧ S 406 t = 3 ∧ Bad S c3 k2 t ∧ f6_mayStand_73 K M (nI s) c3 k2 n (nI i) = some 0) ∨ ((∀ t, i ≤ t → t < nt → ¬ (sl P t = s ∧ S 406 t = 3 ∧ Bad S c3 k2 t)) ∧ f6_mayStand_73 K M (nI s) c3 k2 n (nI i) = K) := by
  have hb := hC.nt4
  have hv := hC.nv6
  intro n
  induction n with
  | zero => intro i h1 h2; omega
  | succ n ih =>
    intro i h1 h2
    rw [f6_mayStand_73, hM.cnt.2.2.2]
    rcases Nat.lt_or_ge i nt with hi | hi
    · rw [if_neg (nI_ge hi (by omega)), isAb hM hb hv hi (hC.t5 hi) hs]
      simp only [Option.bind_some, of6 hM hb hi, of7 hM hb hi, of2 hM hb hi, nI_1, lt]
      have step : ¬ (sl P i = s ∧ S 406 i = 3 ∧ Bad S c3 k2 i) → (∃ t, t < nt ∧ sl P t = s ∧ S 406 t = 3 ∧ Bad S c3 k2 t ∧ f6_mayStand_73 K M (nI s) c3 k2 n (nI (i + 1)) = some 0) ∨ ((∀ t, i ≤ t → t < nt → ¬ (sl P t = s ∧ S 406 t = 3 ∧ Bad S c3 k2 t)) ∧ f6_mayStand_73 K M (nI s) c3 k2 n (nI (i + 1)) = K) := by
        intro hno
        rcases ih (i + 1) (by omega) (by omega) with g | ⟨g1, g2⟩
        · exact Or.inl g
        · refine Or.inr ⟨fun t q1 q2 => ?_, g2⟩
          rcases Nat.eq_or_lt_of_le q1 with e | e
          · rw [← e]; exact hno
          · exact g1 t e q2
      by_cases w : sl P i = s ∧ S 406 i = 3
      · simp only [if_pos w, if_neg one_ne]
        have rest : ¬ (¬ k2 = 0 ∧ S 408 i = 1) → (∃ t, t < nt ∧ sl P t = s ∧ S 406 t = 3 ∧ Bad S c3 k2 t ∧ (if c3 = 1 then if S 408 i = 0 then if 2 ≤ S 409 i then f6_mayStand_73 K M (nI s) c3 k2 n (nI (i + 1)) else if S 403 i = 2 then some 0 else f6_mayStand_73 K M (nI s) c3 k2 n (nI (i + 1)) else f6_mayStand_73 K M (nI s) c3 k2 n (nI (i + 1)) else f6_mayStand_73 K M (nI s) c3 k2 n (nI (i + 1))) = some 0) ∨ ((∀ t, i ≤ t → t < nt → ¬ (sl P t = s ∧ S 406 t = 3 ∧ Bad S c3 k2 t)) ∧ (if c3 = 1 then if S 408 i = 0 then if 2 ≤ S 409 i then f6_mayStand_73 K M (nI s) c3 k2 n (nI (i + 1)) else if S 403 i = 2 then some 0 else f6_mayStand_73 K M (nI s) c3 k2 n (nI (i + 1)) else f6_mayStand_73 K M (nI s) c3 k2 n (nI (i + 1)) else f6_mayStand_73 K M (nI s) c3 k2 n (nI (i + 1))) = K) := by
          intro h0
          by_cases v1 : c3 = 1
          · simp only [if_pos v1]
            by_cases v2 : S 408 i = 0
            · simp only [if_pos v2]
              by_cases v3 : 2 ≤ S 409 i
              · simp only [if_pos v3]; exact step (fun q => q.2.2.elim h0 (fun r => r.2.2.1 v3))
              · simp only [if_neg v3]
                by_cases v4 : S 403 i = 2
                · simp only [if_pos v4]; exact Or.inl ⟨i, hi, w.1, w.2, Or.inr ⟨v1, v2, v3, v4⟩, by simp⟩
                · simp only [if_neg v4]; exact step (fun q => q.2.2.elim h0 (fun r => v4 r.2.2.2))
            · simp only [if_neg v2]; exact step (fun q => q.2.2.elim h0 (fun r => v2 r.2.1))
          · simp only [if_neg v1]; exact step (fun q => q.2.2.elim h0 (fun r => v1 r.1))
        by_cases u1 : k2 = 0
        · simp only [if_pos u1]; exact rest (fun q => q.1 u1)
        · simp only [if_neg u1]
          by_cases u2 : S 408 i = 1
          · simp only [if_pos u2]; exact Or.inl ⟨i, hi, w.1, w.2, Or.inl ⟨u1, u2⟩, by simp⟩
          · simp only [if_neg u2]; exact rest (fun q => u2 q.2)
      · simp only [if_neg w, if_true]; exact step (fun q => w ⟨q.1, q.2.1⟩)
    · have : i = nt := by omega
      subst this
      rw [if_pos (Int32.le_refl _)]
      exact Or.inr ⟨fun t q1 q2 => by omega, rfl⟩
end STAND
