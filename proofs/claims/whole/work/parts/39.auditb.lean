/-! audit: the whole of it -/
section AUDB
variable {k ns nc nv nt tn bn : Nat} {ch : Nat → Nat → List Nat} {S : TS} {P : TP} {N : TN} {M : TS} {A : Nat → Nat → Int32} {me : Nat}
theorem how8 {x : Int32} (h1 : ¬ x < 0) (h2 : ¬ 7 < x) : x = 0 ∨ x = 1 ∨ x = 2 ∨ x = 3 ∨ x = 4 ∨ x = 5 ∨ x = 6 ∨ x = 7 := by
  obtain ⟨q, rfl, -, hq⟩ := within_nat (a := 0) (b := 7) (by decide) (by decide) h1 h2
  match q, hq with
  | 0, _ => exact Or.inl rfl
  | 1, _ => exact Or.inr (Or.inl rfl)
  | 2, _ => exact Or.inr (Or.inr (Or.inl rfl))
  | 3, _ => exact Or.inr (Or.inr (Or.inr (Or.inl rfl)))
  | 4, _ => exact Or.inr (Or.inr (Or.inr (Or.inr (Or.inl rfl))))
  | 5, _ => exact Or.inr (Or.inr (Or.inr (Or.inr (Or.inr (Or.inl rfl)))))
  | 6, _ => exact Or.inr (Or.inr (Or.inr (Or.inr (Or.inr (Or.inr (Or.inl rfl))))))
  | 7, _ => exact Or.inr (Or.inr (Or.inr (Or.inr (Or.inr (Or.inr (Or.inr rfl))))))
theorem comb {a b : Int32} {MI MO X Y Z : Option Int32} (hp : (a = 1 ∧ X = some 1) ∨ (a = 0 ∧ X = some 0)) (hc : (b = 1 ∧ Y = some 1) ∨ (b = 0 ∧ Y = some 0)) (h : ∃ c d : Int32, MI = some c ∧ MO = some d ∧ ((¬ c = 0 ∧ ¬ d = 0 ∧ Z = some 1) ∨ ((c = 0 ∨ d = 0) ∧ Z = some 0))) : ∃ a1 b1 c d : Int32, some a = some a1 ∧ some b = some b1 ∧ MI = some c ∧ MO = some d ∧ ((¬ a1 = 0 ∧ ¬ b1 = 0 ∧ ¬ c = 0 ∧ ¬ d = 0 ∧ (X.bind fun v7 => if v7 = 0 then some 0 else Y.bind fun v9 => if v9 = 0 then some 0 else Z) = some 1) ∨ ((a1 = 0 ∨ b1 = 0 ∨ c = 0 ∨ d = 0) ∧ (X.bind fun v7 => if v7 = 0 then some 0 else Y.bind fun v9 => if v9 = 0 then some 0 else Z) = some 0)) := by
  obtain ⟨c, d, h1, h2, h3⟩ := h
  refine ⟨a, b, c, d, rfl, rfl, h1, h2, ?_⟩
  rcases hp with ⟨rfl, rfl⟩ | ⟨rfl, rfl⟩
  · rcases hc with ⟨rfl, rfl⟩ | ⟨rfl, rfl⟩
    · simp only [Option.bind_some, if_neg one_ne]
      rcases h3 with ⟨x, y, z⟩ | ⟨x, z⟩
      · exact Or.inl ⟨one_ne, one_ne, x, y, z⟩
      · exact Or.inr ⟨Or.inr (Or.inr x), z⟩
    · exact Or.inr ⟨Or.inr (Or.inl rfl), rfl⟩
  · exact Or.inr ⟨Or.inl rfl, rfl⟩
theorem aAg (hC : CI k ns nc nv nt tn ch S P N) (h : AH ns nc nv nt S P M me A) {t : Nat} (ht : t < nt) : ∃ a b c d : Int32, f5_placeAgrees S P me t = some a ∧ f5_cabinAgrees S P me t = some b ∧ f5_minuteAgrees S P me t = some c ∧ f5_moneyAgrees S P me t = some d ∧ ((¬ a = 0 ∧ ¬ b = 0 ∧ ¬ c = 0 ∧ ¬ d = 0 ∧ f6_agrees M (nI t) = some 1) ∨ ((a = 0 ∨ b = 0 ∨ c = 0 ∨ d = 0) ∧ f6_agrees M (nI t) = some 0)) := by
  unfold f6_agrees f5_minuteAgrees f5_moneyAgrees
  simp only [show f0_number S P me t 4 = some (A 4 t) from h.n5 t 4 ht (by decide), show f0_number S P me t 5 = some (A 5 t) from h.n5 t 5 ht (by decide), show f0_number S P me t 10 = some (A 10 t) from h.n5 t 10 ht (by decide), show f0_number S P me t 11 = some (A 11 t) from h.n5 t 11 ht (by decide), show f6_of M (nI t) 0 = some (A 0 t) from h.n6 t 0 ht (by decide), show f6_of M (nI t) 4 = some (A 4 t) from h.n6 t 4 ht (by decide), show f6_of M (nI t) 5 = some (A 5 t) from h.n6 t 5 ht (by decide), show f6_of M (nI t) 10 = some (A 10 t) from h.n6 t 10 ht (by decide), show f6_of M (nI t) 11 = some (A 11 t) from h.n6 t 11 ht (by decide), h.a0 t ht, isIn_eq, Option.bind_some, lt]
  obtain ⟨a, ha, hp⟩ : ∃ a : Int32, f5_placeAgrees S P me t = some a ∧ ((a = 1 ∧ f6_isPlaceRight M (nI t) (nI (sl P t)) (A 4 t) = some 1) ∨ (a = 0 ∧ f6_isPlaceRight M (nI t) (nI (sl P t)) (A 4 t) = some 0)) := by
    rcases aPlc hC h ht with ⟨x, y⟩ | ⟨x, y⟩
    · exact ⟨1, x, Or.inl ⟨rfl, y⟩⟩
    · exact ⟨0, x, Or.inr ⟨rfl, y⟩⟩
  obtain ⟨b, hb, hc⟩ : ∃ a : Int32, f5_cabinAgrees S P me t = some a ∧ ((a = 1 ∧ f6_isCabinRight M (nI t) (nI (sl P t)) (A 4 t) = some 1) ∨ (a = 0 ∧ f6_isCabinRight M (nI t) (nI (sl P t)) (A 4 t) = some 0)) := by
    rcases aCbn hC h ht with ⟨x, y⟩ | ⟨x, y⟩
    · exact ⟨1, x, Or.inl ⟨rfl, y⟩⟩
    · exact ⟨0, x, Or.inr ⟨rfl, y⟩⟩
  rw [ha, hb]
  generalize f6_isPlaceRight M (nI t) (nI (sl P t)) (A 4 t) = X at hp ⊢
  generalize f6_isCabinRight M (nI t) (nI (sl P t)) (A 4 t) = Y at hc ⊢
  generalize A 4 t = w4
  generalize A 5 t = w5
  generalize A 10 t = w10
  generalize A 11 t = w11
  rcases within_c w4 0 7 with ⟨w, g1, g2⟩ | ⟨w, g⟩
  · have h01 : ∀ v : Int32, (f5_within v 0 200000).bind (fun v5 => if v5 = 0 ∨ v5 = 1 then some v5 else none) = f5_within v 0 200000 := by
      intro v
      rcases within_c v 0 200000 with ⟨q, -⟩ | ⟨q, -⟩ <;> rw [q] <;> simp
    rw [w, h01]
    simp only [Option.bind_some, if_neg one_ne]
    have hw : f5_within w5 0 200000 = some 1 ∨ f5_within w5 0 200000 = some 0 := by
      rcases within_c w5 0 200000 with ⟨q, -⟩ | ⟨q, -⟩
      · exact Or.inl q
      · exact Or.inr q
    refine comb hp hc ?_
    clear hp hc ha hb
    rcases how8 g1 g2 with rfl | rfl | rfl | rfl | rfl | rfl | rfl | rfl
    · by_cases z1 : w5 = -1 <;> by_cases z2 : w10 < 500 <;> by_cases z3 : w11 = 0 <;> simp [z1, z2, z3]
    · rcases hw with hw | hw <;> by_cases z2 : w10 < 500 <;> by_cases z3 : w11 = 0 <;> simp [hw, z2, z3]
    · rcases hw with hw | hw <;> by_cases z2 : w10 < 500 <;> by_cases z3 : w11 = 0 <;> simp [hw, z2, z3]
    · rcases hw with hw | hw <;> by_cases z2 : w10 < 500 <;> by_cases z3 : w11 = 0 <;> simp [hw, z2, z3]
    · rcases hw with hw | hw <;> by_cases z2 : w10 < 500 <;> by_cases z3 : w11 = 0 <;> simp [hw, z2, z3]
    · by_cases z2 : w10 < 500 <;> by_cases z3 : w11 = w10 <;> simp [z2, z3]
    · rcases hw with hw | hw <;> by_cases z2 : w10 < 500 <;> by_cases z3 : w11 = 0 <;> simp [hw, z2, z3]
    · by_cases z1 : w5 = -1 <;> by_cases z2 : w10 < 500 <;> by_cases z3 : w11 = w10 / 2 <;> simp [z1, z2, z3]
  · rw [w]
    have n0 : ∀ q : Nat, q ≤ 7 → ¬ w4 = nI q := by
      rintro q hq rfl
      rcases g with g | g
      · exact nI_pos (by omega) g
      · exact nI_nlt (a := 7) (b := q) hq (by decide) g
    rw [if_neg (show ¬ w4 = 0 from n0 0 (by omega)), if_neg (show ¬ w4 = 1 from n0 1 (by omega)), if_neg (show ¬ w4 = 2 from n0 2 (by omega)), if_neg (show ¬ w4 = 3 from n0 3 (by omega)), if_neg (show ¬ w4 = 4 from n0 4 (by omega)), if_neg (show ¬ w4 = 5 from n0 5 (by omega)), if_neg (show ¬ w4 = 6 from n0 6 (by omega)), if_neg (show ¬ w4 = 7 from n0 7 (by omega)), if_neg (show ¬ w4 = 5 from n0 5 (by omega)), if_neg (show ¬ w4 = 7 from n0 7 (by omega))]
    exact ⟨a, b, 1, 0, rfl, rfl, rfl, rfl, Or.inr ⟨Or.inr (Or.inr (Or.inr rfl)), rfl⟩⟩
def yy : Nat → Int32
  | 0 => -1
  | m + 1 => nI m
theorem yy_dec (m : Nat) : nI m + (-1) = yy m := by
  cases m with
  | zero => decide
  | succ m => exact pk_m1 m
def Good (g : Nat → Prop) (nt m : Nat) (w : Int32) : Prop := (∃ t, m ≤ t ∧ t < nt ∧ ¬ g t ∧ (∀ u, m ≤ u → u < t → g u) ∧ w = nI t) ∨ ((∀ u, m ≤ u → u < nt → g u) ∧ w = -1)
theorem Good.one {g : Nat → Prop} {nt m : Nat} {w w' : Int32} (h : Good g nt m w) (h' : Good g nt m w') : w = w' := by
  rcases h with ⟨t, a, b, c, d, e⟩ | ⟨a, e⟩ <;> rcases h' with ⟨t', a', b', c', d', e'⟩ | ⟨a', e'⟩
  · have : t = t' := by
      rcases Nat.lt_trichotomy t t' with q | q | q
      · exact absurd (d' t a q) c
      · exact q
      · exact absurd (d t' a' q) c'
    rw [e, e', this]
  · exact absurd (a' t a b) c
  · exact absurd (a t' a' b') c'
  · rw [e, e']
theorem a54 (hb : nt ≤ 400) (c1 c2 c3 : Int32) (K : Int32 → Option (Int32 × TS)) {g : Nat → Prop} (hg : ∀ t, t < nt → (g t ∧ f6_agrees M (nI t) = some 1) ∨ (¬ g t ∧ f6_agrees M (nI t) = some 0)) : ∀ (n m : Nat) (w : Int32), m < n → m ≤ nt → Good g nt m w → ∃ r, Good g nt 0 r ∧ f6_audit_54 K M c1 c2 c3 n w (yy m) = K r := by
  intro n
  induction n with
  | zero => intro m w h; omega
  | succ n ih =>
    intro m w h1 h2 h3
    rw [f6_audit_54]
    cases m with
    | zero => exact ⟨w, h3, by rw [if_pos (show yy 0 < 0 by decide)]⟩
    | succ m =>
      rw [if_neg (show ¬ yy (m + 1) < 0 from nI_pos (by omega))]
      show ∃ r, Good g nt 0 r ∧ ((f6_agrees M (nI m)).bind fun v2 => if v2 = 0 then f6_audit_54 K M c1 c2 c3 n (nI m) (nI m + (-1)) else f6_audit_54 K M c1 c2 c3 n w (nI m + (-1))) = K r
      rw [yy_dec]
      rcases hg m (by omega) with ⟨q1, q2⟩ | ⟨q1, q2⟩
      · rw [q2]
        simp only [Option.bind_some, if_neg one_ne]
        refine ih m w (by omega) (by omega) ?_
        rcases h3 with ⟨t, a, b, c, d, e⟩ | ⟨a, e⟩
        · refine Or.inl ⟨t, by omega, b, c, fun u hu hu' => ?_, e⟩
          rcases Nat.eq_or_lt_of_le hu with x | x
          · rw [← x]; exact q1
          · exact d u x hu'
        · refine Or.inr ⟨fun u hu hu' => ?_, e⟩
          rcases Nat.eq_or_lt_of_le hu with x | x
          · rw [← x]; exact q1
          · exact a u x hu'
      · rw [q2]
        simp only [Option.bind_some, if_true]
        exact ih m (nI m) (by omega) (by omega) (Or.inl ⟨m, Nat.le_refl _, by omega, q1, fun u hu hu' => by omega, rfl⟩)
theorem aFw (hC : CI k ns nc nv nt tn ch S P N) (h : AH ns nc nv nt S P M me A) {g : Nat → Prop} (hg : ∀ t, t < nt → (g t ∧ f6_agrees M (nI t) = some 1) ∨ (¬ g t ∧ f6_agrees M (nI t) = some 0)) : ∀ (n i : Nat), i ≤ nt → nt < i + n → ∃ r, Good g nt i r ∧ f5_firstWrong_2 (some (-1)) S P me n (nI i) = some r := by
  have hb := hC.nt4
  intro n
  induction n with
  | zero => intro i h1 h2; omega
  | succ n ih =>
    intro i h1 h2
    rw [f5_firstWrong_2, hC.c7]
    rcases Nat.lt_or_ge i nt with hi | hi
    · rw [if_neg (nI_ge hi (by omega)), ix_nI (by omega) (by decide)]
      obtain ⟨a, b, c, d, h1', h2', h3', h4', h5⟩ := aAg hC h hi
      simp only [Option.bind_some, lt, hC.t1 hi, h1', h2', h3', h4', nI_1]
      rcases h5 with ⟨x1, x2, x3, x4, x5⟩ | ⟨x, x5⟩
      · have gi : g i := by
          rcases hg i hi with ⟨q, -⟩ | ⟨-, q⟩
          · exact q
          · rw [x5] at q; exact absurd (Option.some.inj q) one_ne
        rw [if_neg x1, if_neg x2, if_neg x3, if_neg x4]
        obtain ⟨r, hr, e⟩ := ih (i + 1) (by omega) (by omega)
        refine ⟨r, ?_, e⟩
        rcases hr with ⟨t, a, b, c, d, e⟩ | ⟨a, e⟩
        · refine Or.inl ⟨t, by omega, b, c, fun u hu hu' => ?_, e⟩
          rcases Nat.eq_or_lt_of_le hu with x | x
          · rw [← x]; exact gi
          · exact d u x hu'
        · refine Or.inr ⟨fun u hu hu' => ?_, e⟩
          rcases Nat.eq_or_lt_of_le hu with x | x
          · rw [← x]; exact gi
          · exact a u x hu'
      · have gi : ¬ g i := by
          rcases hg i hi with ⟨-, q⟩ | ⟨q, -⟩
          · rw [x5] at q; exact absurd (Option.some.inj q).symm one_ne
          · exact q
        refine ⟨nI i, Or.inl ⟨i, Nat.le_refl _, hi, gi, fun u hu hu' => by omega, rfl⟩, ?_⟩
        by_cases y1 : a = 0
        · rw [if_pos y1]
        · rw [if_neg y1]
          by_cases y2 : b = 0
          · rw [if_pos y2]
          · rw [if_neg y2]
            by_cases y3 : c = 0
            · rw [if_pos y3]
            · rw [if_neg y3]
              by_cases y4 : d = 0
              · rw [if_pos y4]
              · rcases x with x | x | x | x
                · exact absurd x y1
                · exact absurd x y2
                · exact absurd x y3
                · exact absurd x y4
    · have : i = nt := by omega
      subst this
      rw [if_pos (Int32.le_refl _)]
      exact ⟨-1, Or.inr ⟨fun u hu hu' => by omega, rfl⟩, rfl⟩
/-- both sides find the same first wrong ticket -/
theorem aEq (hC : CI k ns nc nv nt tn ch S P N) (h : AH ns nc nv nt S P M me A) (c1 c2 c3 : Int32) (K : Int32 → Option (Int32 × TS)) : ∃ r, f5_firstWrong S P me = some r ∧ f6_audit_54 K M c1 c2 c3 FU (-1) (nI nt - 1) = K r := by
  have hb := hC.nt4
  have hg : ∀ t, t < nt → ((f6_agrees M (nI t) = some 1) ∧ f6_agrees M (nI t) = some 1) ∨ (¬ (f6_agrees M (nI t) = some 1) ∧ f6_agrees M (nI t) = some 0) := by
    intro t ht
    obtain ⟨a, b, c, d, -, -, -, -, ⟨-, -, -, -, q⟩ | ⟨-, q⟩⟩ := aAg hC h ht
    · exact Or.inl ⟨q, q⟩
    · exact Or.inr ⟨by rw [q]; simp, q⟩
  obtain ⟨r, h1, h2⟩ := aFw hC h hg FU 0 (by omega) (by rw [FU_eq]; omega)
  obtain ⟨r', h3, h4⟩ := a54 hb c1 c2 c3 K hg FU nt (-1) (by rw [FU_eq]; omega) (Nat.le_refl _) (Or.inr ⟨fun u hu hu' => by omega, rfl⟩)
  refine ⟨r, h2, ?_⟩
  rw [show nI nt - 1 = yy nt by rw [← yy_dec]; exact Int32.sub_eq_add_neg .., h4, h1.one h3]
theorem xor_back (x a : Int32) : x ^^^ a ^^^ a = x := by rw [Int32.xor_assoc, Int32.xor_self, Int32.xor_zero]
theorem up_up {S : TS} {c i : Nat} {v w : Int32} : up (up S c i v) c i w = up S c i w := by
  funext c' i'
  by_cases h : c' = c
  · subst h; rw [up_eq, up_eq, up_eq]; split <;> rfl
  · rw [up_c h, up_c h, up_c h]
theorem up_id {S : TS} {c i : Nat} : up S c i (S c i) = S := by
  funext c' i'
  by_cases h : c' = c
  · subst h; rw [up_eq]; split
    · rename_i e; rw [e]
    · rfl
  · rw [up_c h]
def sNa (S : TS) (i : Nat) (a2 x : Int32) : TS := up (up (clr S 0 i) 1 i a2) 2 i x
def pNa (P : TP) (i : Nat) (r : Option Nat) : TP := up3 (clrP P 0 i) 0 i 0 r
theorem tell_a {t i : Nat} {a2 x a : Int32} {r : Option Nat} : f4_tell (sNa S i a2 x) (pNa P i r) t a = f4_tell S P t a := rfl
theorem B_audit_ok : B_audit Inv := by
  rintro k S P N M a1 a2 a3 hk ⟨ns, nc, nv, nt, tn, bn, ch, hC, hM, hR⟩
  have hI : Inv (k + 1) S P N M := Inv_up _ _ _ _ _ ⟨ns, nc, nv, nt, tn, bn, ch, hC, hM, hR⟩
  have hb := hC.nt4
  by_cases e2 : a2 = 0
  · unfold f5_audit f6_audit
    simp only [if_pos e2, lt]
    have hC' : CI k ns nc nv nt tn ch (sNa S (N 0) a2 0) (pNa P (N 0) none) (upN N 0) := hC
    have hM' : MI ns nc nv nt tn bn (sNa S (N 0) a2 0) (pNa P (N 0) none) M := hM
    have hR' : Rec nv nt (sNa S (N 0) a2 0) (pNa P (N 0) none) := hR
    have hA : AH ns nc nv nt (sNa S (N 0) a2 0) (pNa P (N 0) none) M (N 0) (fun q t => tS (sNa S (N 0) a2 0) (pNa P (N 0) none) q t) := by
      refine ⟨hM'.cnt, hM'.ship, hM'.cab, hM'.sail, ?_, fun t q ht hq => of_eq hM' hb ht q hq, fun t ht => rfl, fun t ht => rfl, fun t ht => rfl⟩
      intro t q ht hq
      unfold f0_number
      rw [tell_eq hC' ht q hq]
      simp only [Option.bind_some, lt]
      rw [if_neg]
      show ¬ some t = up3 (clrP P 0 (N 0)) 0 (N 0) 0 none 0 (N 0) 0
      rw [up3_v]; simp
    obtain ⟨r, h5, h6⟩ := aEq hC' hA a1 a2 a3 (fun w4 => some (w4, M))
    refine ⟨r, sNa S (N 0) a2 0, pNa P (N 0) none, upN N 0, M, ?_, ?_, Inv_up _ _ _ _ _ ⟨ns, nc, nv, nt, tn, bn, ch, hC', hM', hR'⟩⟩
    · show (f5_firstWrong (sNa S (N 0) a2 0) (pNa P (N 0) none) (N 0)).bind _ = _
      rw [h5]; rfl
    · rw [hM.cnt.2.2.2]; exact h6
  · have fin : (¬ (∃ t, t < nt ∧ a1 = nI t) ∨ f5_within a2 4 11 = some 0) → ∃ v S' P' N' M', f5_audit S P N a1 a2 a3 = some (v, S', P', N') ∧ f6_audit M a1 a2 a3 = some (v, M') ∧ Inv (k + 1) S' P' N' M' := by
      intro hf
      refine ⟨-2, S, P, N, M, ?_, ?_, hI⟩
      · unfold f5_audit
        simp only [if_neg e2]
        rcases pk_ix a1 (n := nt) (by omega) with h | h | ⟨t, ht, rfl⟩
        · rw [tn_none hC (Or.inl h)]; rfl
        · rw [tn_none hC (Or.inr h)]; rfl
        · rw [tn_some hC ht]
          rcases hf with hf | hf
          · exact absurd ⟨t, ht, rfl⟩ hf
          · rw [hf]; rfl
      · unfold f6_audit
        simp only [if_neg e2, lt, isIn_eq]
        rcases within_c a2 4 11 with ⟨w, -⟩ | ⟨w, -⟩
        · rw [w] at hf ⊢
          simp only [Option.bind_some, if_neg one_ne]
          have hf' := hf.resolve_right (fun q => one_ne (Option.some.inj q))
          rcases pk_ix a1 (n := nt) (by omega) with h | h | ⟨t, ht, rfl⟩
          · rw [isT_none hM (Or.inl h)]; rfl
          · rw [isT_none hM (Or.inr h)]; rfl
          · exact absurd ⟨t, ht, rfl⟩ hf'
        · rw [w]; rfl
    rcases pk_ix a1 (n := nt) (by omega) with h | h | ⟨t0, ht0, rfl⟩
    · exact fin (Or.inl (by rintro ⟨t, ht, rfl⟩; exact nI_pos (by omega) h))
    · exact fin (Or.inl (by rintro ⟨t, ht, rfl⟩; exact nI_ge ht (by omega) h))
    · rcases within_c a2 4 11 with ⟨w, w1, w2⟩ | ⟨w, -⟩
      · obtain ⟨q0, rfl, h4, h11⟩ := within_nat (a := 4) (b := 11) (by decide) (by decide) w1 w2
        unfold f5_audit f6_audit
        rw [isIn_eq, w, tn_some hC ht0, isT_some hM hb ht0, of_eq hM hb ht0 q0 (by omega)]
        simp only [if_neg e2, lt, put_at (show t0 < 400 by omega) (show q0 < 13 by omega), Option.bind_some, Option.elim_some, if_neg one_ne]
        have hC' : CI k ns nc nv nt tn ch (sNa S (N 0) (nI q0) a3) (pNa P (N 0) (some t0)) (upN N 0) := hC
        have hM' : MI ns nc nv nt tn bn (sNa S (N 0) (nI q0) a3) (pNa P (N 0) (some t0)) M := hM
        have hR' : Rec nv nt (sNa S (N 0) (nI q0) a3) (pNa P (N 0) (some t0)) := hR
        have hA : AH ns nc nv nt (sNa S (N 0) (nI q0) a3) (pNa P (N 0) (some t0)) (up M 3500 (13 * t0 + q0) (tS S P q0 t0 ^^^ a3)) (N 0) (fun q t => if t = t0 ∧ q = q0 then tS S P q t ^^^ a3 else tS S P q t) := by
          refine ⟨hM'.cnt, hM'.ship, hM'.cab, hM'.sail, ?_, ?_, fun t ht => if_neg (by omega), fun t ht => if_neg (by omega), fun t ht => if_neg (by omega)⟩
          · intro t q ht hq
            unfold f0_number
            rw [tell_eq hC' ht q hq]
            simp only [Option.bind_some, lt]
            have e1 : pNa P (N 0) (some t0) 0 (N 0) 0 = some t0 := by unfold pNa; rw [up3_v]
            have e2 : sNa S (N 0) (nI q0) a3 1 (N 0) = nI q0 := by
              show up (clr S 0 (N 0)) 1 (N 0) (nI q0) 1 (N 0) = _; rw [up_v]
            have e3 : sNa S (N 0) (nI q0) a3 2 (N 0) = a3 := by unfold sNa; rw [up_v]
            have e4 : tS (sNa S (N 0) (nI q0) a3) (pNa P (N 0) (some t0)) q t = tS S P q t := rfl
            rw [e1, e2, e3, e4]
            by_cases g1 : t = t0
            · by_cases g2 : q = q0
              · rw [if_pos (by rw [g1]), if_pos (by rw [g2]), if_pos ⟨g1, g2⟩]
              · rw [if_pos (by rw [g1]), if_neg (fun e => g2 (nI_inj (by omega) (by omega) e)), if_neg (fun e => g2 e.2)]
            · rw [if_neg (by rw [some_eq]; exact g1), if_neg (fun e => g1 e.1)]
          · intro t q ht hq
            rw [of_at (by omega) hq, up_eq]
            show some _ = some (if t = t0 ∧ q = q0 then tS S P q t ^^^ a3 else tS S P q t)
            by_cases g : t = t0 ∧ q = q0
            · rw [if_pos (by rw [g.1, g.2]), if_pos g, g.1, g.2]
            · rw [if_neg (by omega), if_neg g, hM.tick t q ht hq]
        obtain ⟨r, h5, h6⟩ := aEq hC' hA (nI t0) (nI q0) a3 (fun w4 => (f6_of (up M 3500 (13 * t0 + q0) (tS S P q0 t0 ^^^ a3)) (nI t0) (nI q0)).bind fun v5 => some (w4, up (up M 3500 (13 * t0 + q0) (tS S P q0 t0 ^^^ a3)) 3500 (13 * t0 + q0) (v5 ^^^ a3)))
        refine ⟨r, sNa S (N 0) (nI q0) a3, pNa P (N 0) (some t0), upN N 0, M, ?_, ?_, Inv_up _ _ _ _ _ ⟨ns, nc, nv, nt, tn, bn, ch, hC', hM', hR'⟩⟩
        · show (f5_firstWrong (sNa S (N 0) (nI q0) a3) (pNa P (N 0) (some t0)) (N 0)).bind _ = _
          rw [h5]; rfl
        · have e623 : up M 3500 (13 * t0 + q0) (tS S P q0 t0 ^^^ a3) 623 0 = nI nt := hM.cnt.2.2.2
          rw [e623]
          refine h6.trans ?_
          simp only [of_at (show t0 < 400 by omega) (show q0 < 13 by omega), put_at (show t0 < 400 by omega) (show q0 < 13 by omega), Option.bind_some, up_v, xor_back, up_up]
          rw [← hM.tick t0 q0 ht0 (by omega), up_id]
      · exact fin (Or.inr w)
end AUDB
