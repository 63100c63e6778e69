/-! lanes as lists: walks over them; at -/
section CHAIN
variable {k ns nc nv nt tn bn : Nat} {ch : Nat → Nat → List Nat} {S : TS} {P : TP} {N : TN} {M : TS}
theorem dims (hS : CI_ship ns S P) {i : Nat} (hi : i < ns) : ∃ D W n : Nat, S 301 i = nI D ∧ S 302 i = nI W ∧ S 303 i = nI n ∧ S 1499 i = nI (D * W) ∧ nn (S 301 i) = D ∧ nn (S 302 i) = W ∧ nn (S 303 i) = n ∧ nn (S 1499 i) = D * W ∧ 1 ≤ D ∧ D ≤ 4 ∧ 1 ≤ W ∧ W ≤ 6 ∧ 50 ≤ n ∧ n ≤ 2000 ∧ D * W ≤ 24 := by
  obtain ⟨D, W, n, h1, h2, h3, b1, b2, b3, b4, b5, b6, h4⟩ := (hS i hi).2.2.2.1
  have hm : D * W ≤ 24 := Nat.le_trans (Nat.mul_le_mul b2 b4) (by decide)
  refine ⟨D, W, n, h1, h2, h3, h4, ?_, ?_, ?_, ?_, b1, b2, b3, b4, b5, b6, hm⟩
  · rw [h1, nn_nI (by omega)]
  · rw [h2, nn_nI (by omega)]
  · rw [h3, nn_nI (by omega)]
  · rw [h4, nn_nI (by omega)]
theorem jlt {D W d l : Nat} (hd : d < D) (hl : l < W) : d * W + l < D * W := by
  have : (d + 1) * W ≤ D * W := Nat.mul_le_mul_right W hd
  rw [Nat.add_mul, Nat.one_mul] at this
  omega
theorem jinj {W d l d' l' : Nat} (hl : l < W) (hl' : l' < W) (h : d * W + l = d' * W + l') : d = d' ∧ l = l' := by
  have h1 : (d * W + l) / W = d := by rw [Nat.mul_comm, Nat.mul_add_div (by omega), Nat.div_eq_of_lt hl, Nat.add_zero]
  have h2 : (d' * W + l') / W = d' := by rw [Nat.mul_comm, Nat.mul_add_div (by omega), Nat.div_eq_of_lt hl', Nat.add_zero]
  have e : d = d' := by rw [← h1, h, h2]
  refine ⟨e, ?_⟩
  rw [e] at h; omega
theorem hl1 (hS : CI_ship ns S P) {i : Nat} (hi : i < ns) {d l : Nat} (hd : d < nn (S 301 i)) (hl : l < nn (S 302 i)) : f3_hasLane S P i (nI d) (nI l) = some 1 := by
  obtain ⟨D, W, n, h1, h2, h3, h4, e1, e2, e3, e4, b1, b2, b3, b4, b5, b6, hm⟩ := dims hS hi
  rw [e1] at hd; rw [e2] at hl
  unfold f3_hasLane
  rw [h1, h2, if_neg (nI_pos (by omega)), if_neg (nI_ge hd (by omega)), if_neg (nI_pos (by omega)), if_neg (nI_ge hl (by omega))]
theorem nb (hS : CI_ship ns S P) {i : Nat} (hi : i < ns) {d l : Nat} (hd : d < nn (S 301 i)) (hl : l < nn (S 302 i)) : f3_nearestBow S P i (nI d) (nI l) = some (P 1400 i (d * nn (S 302 i) + l)) := by
  obtain ⟨D, W, n, h1, h2, h3, h4, e1, e2, e3, e4, b1, b2, b3, b4, b5, b6, hm⟩ := dims hS hi
  have hj := hl1 hS hi hd hl
  rw [e1] at hd; rw [e2] at hl
  have := jlt hd hl
  unfold f3_nearestBow
  rw [hj]
  simp only [Option.bind_some, if_neg one_ne, lt, (hS i hi).2.1]
  rw [h2, h4, pk_mul, nI_add, nI_clamp (by omega), ix_nI (by omega) (by omega), nn_nI (by omega)]
  rfl
theorem nb0 {i : Nat} {a b : Int32} (h : f3_hasLane S P i a b = some 0) : f3_nearestBow S P i a b = some none := by
  unfold f3_nearestBow; rw [h]; rfl
/-- who stands in a lane -/
theorem chm (hC : CI k ns nc nv nt tn ch S P N) {i : Nat} (hi : i < ns) {d l : Nat} (hd : d < nn (S 301 i)) (hl : l < nn (S 302 i)) (t : Nat) : t ∈ ch i (d * nn (S 302 i) + l) ↔ t < nt ∧ S 406 t = 3 ∧ st P t = i ∧ S 408 t = nI d ∧ S 409 t = nI l := by
  obtain ⟨D, W, n, h1, h2, h3, h4, e1, e2, e3, e4, b1, b2, b3, b4, b5, b6, hm⟩ := dims hC.ship hi
  have hd' := hd
  have hl' := hl
  rw [e1] at hd'; rw [e2] at hl'
  have hj := jlt hd' hl'
  rw [hC.mem i _ t hi (by rw [e4, e2]; exact hj), e2, h2]
  constructor
  · rintro ⟨a, b, c, e⟩
    refine ⟨a, b, c, ?_⟩
    obtain ⟨d1, l1, q1, q2, q3, q4⟩ := hC.dl t a b
    rw [c] at q3 q4
    rw [e1] at q3; rw [e2] at q4
    have hj1 := jlt q3 q4
    rw [q1, q2, pk_mul, nI_add] at e
    obtain ⟨x, y⟩ := jinj q4 hl' (nI_inj (by omega) (by omega) e)
    rw [q1, q2, x, y]; exact ⟨rfl, rfl⟩
  · rintro ⟨a, b, c, e, f⟩
    refine ⟨a, b, c, ?_⟩
    rw [e, f, pk_mul, nI_add]
theorem tot_len {ln : Nat → Int32} : ∀ {L : List Nat}, (∀ t ∈ L, ∃ x : Nat, ln t = nI x ∧ 20 ≤ x ∧ x ≤ 250) → 20 * L.length ≤ total ln L
  | [], _ => Nat.zero_le _
  | t :: L, h => by
    have := tot_len (fun t ht => h t (List.mem_cons_of_mem _ ht))
    obtain ⟨x, h1, h2, h3⟩ := h t (List.mem_cons_self ..)
    simp only [total, List.length_cons]
    rw [h1, nn_nI (by omega)]; omega
theorem ctg_ge {pl ln : Nat → Int32} : ∀ {L : List Nat} {p : Nat}, contig pl ln p L → ∀ t ∈ L, ∃ q, p ≤ q ∧ pl t = nI q ∧ q + nn (ln t) ≤ p + total ln L
  | [], _, _, t, ht => absurd ht (by simp)
  | a :: L, p, h, t, ht => by
    rcases List.mem_cons.mp ht with e | e
    · subst e
      exact ⟨p, Nat.le_refl _, h.1, by simp only [total]; omega⟩
    · obtain ⟨q, h1, h2, h3⟩ := ctg_ge h.2 t e
      exact ⟨q, by omega, h2, by simp only [total]; omega⟩
/-- a lane without a gap covers just its first places -/
theorem ctg_cov {pl ln : Nat → Int32} : ∀ {L : List Nat} {p : Nat} (x : Nat), contig pl ln p L → p ≤ x → x < p + total ln L → ∃ t ∈ L, ∃ q, pl t = nI q ∧ q ≤ x ∧ x < q + nn (ln t)
  | [], p, x, _, h1, h2 => by simp only [total] at h2; omega
  | a :: L, p, x, h, h1, h2 => by
    rcases Nat.lt_or_ge x (p + nn (ln a)) with g | g
    · exact ⟨a, List.mem_cons_self .., p, h.1, h1, g⟩
    · obtain ⟨t, ht, q, r⟩ := ctg_cov x h.2 g (by simp only [total] at h2; omega)
      exact ⟨t, List.mem_cons_of_mem _ ht, q, r⟩
theorem lane (hC : CI k ns nc nv nt tn ch S P N) {i : Nat} (hi : i < ns) {d l : Nat} (hd : d < nn (S 301 i)) (hl : l < nn (S 302 i)) : linked (P 415) (P 1400 i (d * nn (S 302 i) + l)) (ch i (d * nn (S 302 i) + l)) ∧ contig (S 410) (S 402) 0 (ch i (d * nn (S 302 i) + l)) ∧ total (S 402) (ch i (d * nn (S 302 i) + l)) ≤ nn (S 303 i) ∧ (ch i (d * nn (S 302 i) + l)).Nodup ∧ (ch i (d * nn (S 302 i) + l)).Pairwise (fun a b => S 414 a < S 414 b) ∧ (∀ t ∈ ch i (d * nn (S 302 i) + l), ∃ x : Nat, S 402 t = nI x ∧ 20 ≤ x ∧ x ≤ 250) ∧ (ch i (d * nn (S 302 i) + l)).length ≤ 100 := by
  obtain ⟨D, W, n, h1, h2, h3, h4, e1, e2, e3, e4, b1, b2, b3, b4, b5, b6, hm⟩ := dims hC.ship hi
  have hj : d * nn (S 302 i) + l < nn (S 1499 i) := by
    rw [e4, e2]; rw [e1] at hd; rw [e2] at hl; exact jlt hd hl
  obtain ⟨a, b, c, e⟩ := hC.ctg i _ hi hj
  have hx : ∀ t ∈ ch i (d * nn (S 302 i) + l), ∃ x : Nat, S 402 t = nI x ∧ 20 ≤ x ∧ x ≤ 250 := fun t ht => (hC.tick t ((chm hC hi hd hl t).mp ht).1).2.2.2.2.1
  have := tot_len hx
  exact ⟨hC.lnk i _ hi hj, a, b, c, e, hx, by omega⟩
def Cv (S : TS) (v : Int32) (t : Nat) : Prop := ¬ v < S 410 t ∧ ¬ S 410 t + S 402 t ≤ v
theorem at5 (v : Int32) (K : Option Int32) : ∀ (L : List Nat) (n p : Nat) (r : Option Nat), linked (P 415) r L → contig (S 410) (S 402) p L → (∀ t ∈ L, ∃ x : Nat, S 402 t = nI x ∧ 20 ≤ x ∧ x ≤ 250) → p + total (S 402) L ≤ 2000 → L.length < n → (∃ t ∈ L, Cv S v t ∧ f5_at_23 K S P v n r = some (S 400 t)) ∨ ((∀ t ∈ L, ¬ Cv S v t) ∧ f5_at_23 K S P v n r = K) := by
  intro L
  induction L with
  | nil =>
    intro n p r h1 h2 h3 h4 h5
    cases n with
    | zero => omega
    | succ n =>
      have h1 : r = none := h1
      subst h1
      exact Or.inr ⟨fun t ht => absurd ht (by simp), rfl⟩
  | cons a L ih =>
    intro n p r h1 h2 h3 h4 h5
    cases n with
    | zero => omega
    | succ n =>
      obtain ⟨h1, h1'⟩ := h1
      obtain ⟨h2, h2'⟩ := h2
      subst h1
      obtain ⟨x, hx, hx1, hx2⟩ := h3 a (List.mem_cons_self ..)
      have h4' : p + (x + total (S 402) L) ≤ 2000 := by
        have := h4; simp only [total] at this; rw [hx, nn_nI (by omega)] at this; exact this
      rw [f5_at_23]
      simp only [Option.elim_some, lt]
      have hcv : f5_within v (S 410 a) (S 410 a + S 402 a - 1) = some 1 ∧ Cv S v a ∨ f5_within v (S 410 a) (S 410 a + S 402 a - 1) = some 0 ∧ ¬ Cv S v a := by
        have e : S 410 a + S 402 a - 1 < v ↔ S 410 a + S 402 a ≤ v := by
          rw [h2, hx, nI_add]; exact sub1_lt (by omega)
        rcases within_c v (S 410 a) (S 410 a + S 402 a - 1) with ⟨w, w1, w2⟩ | ⟨w, w1⟩
        · exact Or.inl ⟨w, w1, fun q => w2 (e.mpr q)⟩
        · refine Or.inr ⟨w, ?_⟩
          rintro ⟨q1, q2⟩
          rcases w1 with w1 | w1
          · exact q1 w1
          · exact q2 (e.mp w1)
      rcases hcv with ⟨w, q⟩ | ⟨w, q⟩
      · rw [w]
        exact Or.inl ⟨a, List.mem_cons_self .., q, rfl⟩
      · rw [w]
        simp only [Option.bind_some, if_true]
        rw [hx, nn_nI (by omega)] at h2'
        rcases ih n (p + x) (P 415 a 0) h1' h2' (fun t ht => h3 t (List.mem_cons_of_mem _ ht)) (by omega) (by simp only [List.length_cons] at h5; omega) with ⟨t, ht, q1, q2⟩ | ⟨q1, q2⟩
        · exact Or.inl ⟨t, List.mem_cons_of_mem _ ht, q1, q2⟩
        · refine Or.inr ⟨fun t ht => ?_, q2⟩
          rcases List.mem_cons.mp ht with e | e
          · rw [e]; exact q
          · exact q1 t e
theorem cv_one {v : Int32} : ∀ {L : List Nat} {p : Nat}, contig (S 410) (S 402) p L → (∀ t ∈ L, ∃ x : Nat, S 402 t = nI x ∧ 20 ≤ x ∧ x ≤ 250) → p + total (S 402) L ≤ 2000 → ∀ t ∈ L, ∀ t' ∈ L, Cv S v t → Cv S v t' → t = t'
  | [], _, _, _, _, t, ht, _, _, _, _ => absurd ht (by simp)
  | a :: L, p, h, h3, h4, t, ht, t', ht', c, c' => by
    obtain ⟨x, hx, hx1, hx2⟩ := h3 a (List.mem_cons_self ..)
    have h4' : p + (x + total (S 402) L) ≤ 2000 := by
      have := h4; simp only [total] at this; rw [hx, nn_nI (by omega)] at this; exact this
    have h2 := h.2
    rw [hx, nn_nI (by omega)] at h2
    have far : ∀ u ∈ L, Cv S v a → Cv S v u → False := by
      intro u hu c1 c2
      obtain ⟨q, g1, g2, g3⟩ := ctg_ge h2 u hu
      have g4 := c1.2
      have g5 := c2.1
      rw [h.1, hx, nI_add, Int32.le_iff_toInt_le, nI_toInt (by omega)] at g4
      rw [g2, Int32.lt_iff_toInt_lt, nI_toInt (by omega)] at g5
      omega
    rcases List.mem_cons.mp ht with e | e <;> rcases List.mem_cons.mp ht' with e' | e'
    · rw [e, e']
    · rw [e] at c; exact absurd (far t' e' c c') id
    · rw [e'] at c'; exact absurd (far t e c' c) id
    · exact cv_one h2 (fun t ht => h3 t (List.mem_cons_of_mem _ ht)) (by omega) t e t' e' c c'
theorem cov6 (hC : CI k ns nc nv nt tn ch S P N) (hM : MI ns nc nv nt tn bn S P M) {s : Nat} (hs : s < nv) (d l v : Int32) (K : Option Int32) : ∀ (n i : Nat), i ≤ nt → nt < i + n → (∃ t, t < nt ∧ sl P t = s ∧ S 406 t = 3 ∧ S 408 t = d ∧ S 409 t = l ∧ Cv S v t ∧ f6_covers_3 K M (nI s) d l v n (nI i) = some (nI t)) ∨ ((∀ t, i ≤ t → t < nt → ¬ (sl P t = s ∧ S 406 t = 3 ∧ S 408 t = d ∧ S 409 t = l ∧ Cv S v t)) ∧ f6_covers_3 K M (nI s) d l v n (nI i) = K) := by
  have hb := hC.nt4
  have hv := hC.nv6
  intro n
  induction n with
  | zero => intro i h1 h2; omega
  | succ n ih =>
    intro i h1 h2
    rw [f6_covers_3, hM.cnt.2.2.2]
    rcases Nat.lt_or_ge i nt with hi | hi
    · rw [if_neg (nI_ge hi (by omega)), isAb hM hb hv hi (hC.t5 hi) hs]
      simp only [Option.bind_some, of6 hM hb hi, of7 hM hb hi, of8 hM hb hi, of1 hM hb hi, nI_1]
      have step : ¬ (sl P i = s ∧ S 406 i = 3 ∧ S 408 i = d ∧ S 409 i = l ∧ Cv S v i) → (∃ t, t < nt ∧ sl P t = s ∧ S 406 t = 3 ∧ S 408 t = d ∧ S 409 t = l ∧ Cv S v t ∧ f6_covers_3 K M (nI s) d l v n (nI (i + 1)) = some (nI t)) ∨ ((∀ t, i ≤ t → t < nt → ¬ (sl P t = s ∧ S 406 t = 3 ∧ S 408 t = d ∧ S 409 t = l ∧ Cv S v t)) ∧ f6_covers_3 K M (nI s) d l v n (nI (i + 1)) = K) := by
        intro hno
        rcases ih (i + 1) (by omega) (by omega) with g | ⟨g1, g2⟩
        · exact Or.inl g
        · refine Or.inr ⟨fun t q1 q2 => ?_, g2⟩
          rcases Nat.eq_or_lt_of_le q1 with e | e
          · rw [← e]; exact hno
          · exact g1 t e q2
      by_cases e1 : sl P i = s ∧ S 406 i = 3
      · simp only [if_pos e1, if_neg one_ne]
        by_cases e2 : S 408 i = d
        · simp only [if_pos e2]
          by_cases e3 : S 409 i = l
          · simp only [if_pos e3]
            by_cases e4 : v < S 410 i
            · simp only [if_pos e4]; exact step (fun q => q.2.2.2.2.1 e4)
            · simp only [if_neg e4]
              by_cases e5 : S 410 i + S 402 i ≤ v
              · simp only [if_pos e5]; exact step (fun q => q.2.2.2.2.2 e5)
              · simp only [if_neg e5]
                exact Or.inl ⟨i, hi, e1.1, e1.2, e2, e3, ⟨e4, e5⟩, by simp⟩
          · simp only [if_neg e3]; exact step (fun q => e3 q.2.2.2.1)
        · simp only [if_neg e2]; exact step (fun q => e2 q.2.2.1)
      · simp only [if_neg e1, if_true]; exact step (fun q => e1 ⟨q.1, q.2.1⟩)
    · have : i = nt := by omega
      subst this
      rw [if_pos (Int32.le_refl _)]
      exact Or.inr ⟨fun t q1 q2 => by omega, rfl⟩
theorem isLn (hC : CI k ns nc nv nt tn ch S P N) (hM : MI ns nc nv nt tn bn S P M) {i : Nat} (hi : i < ns) (a b : Int32) : (f3_hasLane S P i a b = some 1 ∧ f6_isLane M (nI i) a b = some 1 ∧ ∃ d l : Nat, a = nI d ∧ b = nI l ∧ d < nn (S 301 i) ∧ l < nn (S 302 i)) ∨ (f3_hasLane S P i a b = some 0 ∧ f6_isLane M (nI i) a b = some 0) := by
  have hns := hC.ns1
  unfold f6_isLane
  rw [isP_some hM hns hi]
  simp only [Option.bind_some, if_neg one_ne, ix_nI (show i < 12 by omega) (by decide), isIn_eq, (hM.ship i hi).1, (hM.ship i hi).2.1]
  rcases hasLane5 hC hi a b with ⟨g1, g2, g3, g4⟩ | ⟨g1, g2 | ⟨g2, g3⟩⟩
  · rw [g1, g2, g3]; exact Or.inl ⟨rfl, rfl, g4⟩
  · rw [g1, g2]; exact Or.inr ⟨rfl, rfl⟩
  · rw [g1, g2, g3]; exact Or.inr ⟨rfl, rfl⟩
theorem B_at_ok : B_at Inv := by
  rintro k S P N M a1 a2 a3 a4 hk ⟨ns, nc, nv, nt, tn, bn, ch, hC, hM, hR⟩
  have hI : Inv (k + 1) S P N M := Inv_up _ _ _ _ _ ⟨ns, nc, nv, nt, tn, bn, ch, hC, hM, hR⟩
  have hns := hC.ns1
  have hv := hC.nv6
  have hb := hC.nt4
  have none_ : (a1 < 0 ∨ nI ns ≤ a1) → ∃ v, f5_at S P a1 a2 a3 a4 = some v ∧ f6_at M a1 a2 a3 a4 = some v ∧ Inv (k + 1) S P N M := by
    intro h
    refine ⟨-1, ?_, ?_, hI⟩
    · unfold f5_at; rw [pn_none hC h]; rfl
    · unfold f6_at f6_isLane; rw [isP_none hM h]; rfl
  rcases pk_ix a1 (n := ns) (by omega) with h | h | ⟨i, hi, rfl⟩
  · exact none_ (Or.inl h)
  · exact none_ (Or.inr h)
  · unfold f5_at f6_at
    rw [pn_some hC hi]
    simp only [Option.bind_some, Option.elim_some, ix_nI (show i < 12 by omega) (by decide), (hM.ship i hi).2.2.1, isIn_eq]
    rcases isLn hC hM hi a2 a3 with ⟨g1, g2, d, l, rfl, rfl, hd, hl⟩ | ⟨g1, g2⟩
    · obtain ⟨D, W, n, h1, h2, h3, h4, e1, e2, e3, e4, b1, b2, b3, b4, b5, b6, hm⟩ := dims hC.ship hi
      obtain ⟨k1, k2, k3, k4, k5, k6, k7⟩ := lane hC hi hd hl
      rw [nb hC.ship hi hd hl, g2]
      simp only [Option.bind_some, if_neg one_ne]
      have r5 := at5 (S := S) (P := P) a4 (some (-1)) _ FU 0 _ k1 k2 k6 (by omega) (by rw [FU_eq]; omega)
      have no : (∀ t ∈ ch i (d * nn (S 302 i) + l), ¬ Cv S a4 t) → f5_at_23 (some (-1)) S P a4 FU (P 1400 i (d * nn (S 302 i) + l)) = some (-1) := by
        intro hno
        rcases r5 with ⟨t, ht, c, -⟩ | ⟨-, q⟩
        · exact absurd c (hno t ht)
        · exact q
      rcases within_c a4 0 (S 303 i - 1) with ⟨w, w1, w2⟩ | ⟨w, w1⟩
      · rw [w]
        simp only [Option.bind_some, if_neg one_ne]
        rcases opn0 hC hM hi with ⟨s, hs, q1, q2, -, q4⟩ | ⟨q1, -, q4⟩
        · rw [q4]
          simp only [Option.bind_some, if_neg (nI_neg1 (show s < 2 ^ 31 by omega))]
          have ab : ∀ t, t ∈ ch i (d * nn (S 302 i) + l) ↔ t < nt ∧ sl P t = s ∧ S 406 t = 3 ∧ S 408 t = nI d ∧ S 409 t = nI l := by
            intro t
            rw [chm hC hi hd hl t]
            constructor
            · rintro ⟨x1, x2, x3, x4, x5⟩
              obtain ⟨y1, y2⟩ := (ab_open hC hs q1 q2 x1).mp ⟨x2, x3⟩
              exact ⟨x1, y2, y1, x4, x5⟩
            · rintro ⟨x1, x2, x3, x4, x5⟩
              obtain ⟨y1, y2⟩ := (ab_open hC hs q1 q2 x1).mpr ⟨x3, x2⟩
              exact ⟨x1, y1, y2, x4, x5⟩
          unfold f6_covers
          rcases cov6 hC hM hs (nI d) (nI l) a4 (some (-1)) FU 0 (by omega) (by rw [FU_eq]; omega) with ⟨t, ht, x1, x2, x3, x4, x5, x6⟩ | ⟨x1, x2⟩
          · have x6 : f6_covers_3 (some (-1)) M (nI s) (nI d) (nI l) a4 FU 0 = some (nI t) := x6
            rw [x6]
            have tm := (ab t).mpr ⟨ht, x1, x2, x3, x4⟩
            rcases r5 with ⟨t', ht', c, q⟩ | ⟨q, -⟩
            · have : t' = t := cv_one k2 k6 (by omega) t' ht' t tm c x5
              subst this
              rw [q, (hC.tick t' ht).2.1]
              exact ⟨_, rfl, rfl, hI⟩
            · exact absurd x5 (q t tm)
          · have x2 : f6_covers_3 (some (-1)) M (nI s) (nI d) (nI l) a4 FU 0 = some (-1) := x2
            rw [x2, no (fun t ht c => by
              obtain ⟨y1, y2, y3, y4, y5⟩ := (ab t).mp ht
              exact x1 t (Nat.zero_le _) y1 ⟨y2, y3, y4, y5, c⟩)]
            exact ⟨_, rfl, rfl, hI⟩
        · rw [q4, no (fun t ht c => by
            obtain ⟨y1, y2, y3, -⟩ := (chm hC hi hd hl t).mp ht
            exact ab_none hC q1 y1 ⟨y2, y3⟩)]
          exact ⟨_, rfl, rfl, hI⟩
      · rw [w, no (fun t ht c => by
          obtain ⟨q, y1, y2, y3⟩ := ctg_ge k2 t ht
          obtain ⟨x, hx, x1, x2⟩ := k6 t ht
          obtain ⟨c1, c2⟩ := c
          rw [hx, nn_nI (by omega)] at y3
          rw [y2, Int32.lt_iff_toInt_lt, nI_toInt (by omega)] at c1
          rw [y2, hx, nI_add, Int32.le_iff_toInt_le, nI_toInt (by omega)] at c2
          rcases w1 with w1 | w1
          · rw [Int32.lt_iff_toInt_lt, show (0 : Int32).toInt = 0 from rfl] at w1; omega
          · rw [h3, sub1_lt (by omega), Int32.le_iff_toInt_le, nI_toInt (by omega)] at w1; omega)]
        exact ⟨_, rfl, rfl, hI⟩
    · rw [nb0 g1, g2]
      exact ⟨_, rfl, rfl, hI⟩
end CHAIN
