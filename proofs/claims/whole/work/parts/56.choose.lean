/-! the choice of a lane, on both sides -/
section CHOOSE
variable {k ns nc nv nt tn bn : Nat} {ch : Nat → Nat → List Nat} {S : TS} {P : TP} {N : TN} {M : TS}
def bd : Option (Nat × Nat) → Int32
  | none => -1
  | some (d, _) => nI d
def bl : Option (Nat × Nat) → Int32
  | none => -1
  | some (_, l) => nI l
def tl (S : TS) (ch : Nat → Nat → List Nat) (i d l : Nat) : Nat := total (S 402) (ch i (d * nn (S 302 i) + l))
def bf (S : TS) (ch : Nat → Nat → List Nat) (i : Nat) : Option (Nat × Nat) → Int32
  | none => 0
  | some (d, l) => nI (nn (S 303 i) - tl S ch i d l)
def bj (W : Nat) : Option (Nat × Nat) → Int32
  | none => -1
  | some (d, l) => nI (d * W + l)
def bg (S : TS) (ch : Nat → Nat → List Nat) (i : Nat) : Option (Nat × Nat) → Int32
  | none => 0
  | some (d, l) => nI (tl S ch i d l)
def Bok (S : TS) (ch : Nat → Nat → List Nat) (i L : Nat) (b : Option (Nat × Nat)) : Prop := ∀ d l, b = some (d, l) → d < nn (S 301 i) ∧ l < nn (S 302 i) ∧ tl S ch i d l + L ≤ nn (S 303 i)
theorem inner (hC : CI k ns nc nv nt tn ch S P N) {s t i D W L : Nat} (hi : i < ns) (eD : nn (S 301 i) = D) (eW : nn (S 302 i) = W) (hs : s < nv) (hvs : vs P s = i) (h1 : S 204 s = 1) (ht : t < nt) (hL : S 402 t = nI L) (hLb : 20 ≤ L ∧ L ≤ 250) {d : Nat} (hd : d < D) (K : Int32 → Int32 → Int32 → Option (Int32 × TS × TP)) (K' : TS → Int32 → Int32 → Option (Int32 × TS)) : ∀ (c l : Nat), l + c = W → ∀ (n m : Nat) (M : TS) (b : Option (Nat × Nat)), c < n → MI ns nc nv nt tn bn S P M → Bok S ch i L b → ∃ b' M', Bok S ch i L b' ∧ Scr M M' ∧ f3_placeByDeckRule_22 K S P i t (nI d) n (bd b) (bl b) (bf S ch i b) (nI l) = K (bd b') (bl b') (bf S ch i b') ∧ f6_boards_19 K' (nI t) (nI s) (nI i) (m + c) M (bj W b) (bf S ch i b) (bg S ch i b) (nI (d * W + l)) = f6_boards_19 K' (nI t) (nI s) (nI i) m M' (bj W b') (bf S ch i b') (bg S ch i b') (nI (d * W + W)) := by
  have hb := hC.nt4
  have hv := hC.nv6
  have hns := hC.ns1
  obtain ⟨D', W', z, h1', h2', h3', h4', e1, e2, e3, e4, b1, b2, b3, b4, b5, b6, hm⟩ := dims hC.ship hi
  have eD' : D' = D := by rw [← e1, eD]
  have eW' : W' = W := by rw [← e2, eW]
  subst eD' eW'
  intro c
  induction c with
  | zero =>
    intro l hl n m M b hn hM hB
    cases n with
    | zero => omega
    | succ n =>
      have : l = W' := by omega
      subst this
      refine ⟨b, M, hB, Scr.refl M, ?_, rfl⟩
      rw [f3_placeByDeckRule_22, h2', if_pos (Int32.le_refl _)]
  | succ c ih =>
    intro l hl n m M b hn hM hB
    cases n with
    | zero => omega
    | succ n =>
      have hl' : l < W' := by omega
      have hd1 : d < nn (S 301 i) := by rw [eD]; exact hd
      have hl1' : l < nn (S 302 i) := by rw [eW]; exact hl'
      have hj := jlt hd hl'
      obtain ⟨v, hv01, s5, s6⟩ := mst hC hM hi hd1 hl1' (so := nI s) (Or.inr ⟨s, hs, rfl, hvs, h1⟩) (S 403 t)
      obtain ⟨M12, q1, q2, q3, -, q5⟩ := meas hC hM hi hd1 hl1' (so := nI s) (Or.inr ⟨s, hs, rfl, hvs, h1⟩) (c := L) (by omega)
      have hfree := free5 hC hi hd1 hl1'
      have hgap := gap5 hC hi hd1 hl1' (c := L) (by omega)
      have hT : total (S 402) (ch i (d * nn (S 302 i) + l)) = tl S ch i d l := rfl
      rw [hT] at q3 q5 hfree hgap
      have hTn : tl S ch i d l ≤ nn (S 303 i) := (lane hC hi hd1 hl1').2.2.1
      have hM12 := MI_scr hM q2
      rw [f3_placeByDeckRule_22, show m + (c + 1) = (m + c) + 1 from rfl, f6_boards_19, h2', if_neg (nI_ge hl' (by omega)), hfree, ix_nI (show i < 12 by omega) (by decide)]
      simp only [Option.bind_some, lt, (hM.ship i hi).1, (hM.ship i hi).2.1, h1', h2']
      rw [pk_mul, if_neg (nI_ge hj (by omega)), if_neg (show ¬ nI W' = 0 from nI_ne0 (by omega) (by omega)), if_neg (show ¬ nI W' = 0 from nI_ne0 (by omega) (by omega)), pk_rem (a := d * W' + l) (d := W') (by omega) (by omega) (by omega), pk_div (a := d * W' + l) (d := W') (by omega) (by omega) (by omega)]
      have hdiv : (d * W' + l) / W' = d := by rw [Nat.mul_comm, Nat.mul_add_div (by omega), Nat.div_eq_of_lt hl', Nat.add_zero]
      have hmod : (d * W' + l) % W' = l := by rw [Nat.mul_comm, Nat.mul_add_mod, Nat.mod_eq_of_lt hl']
      rw [hdiv, hmod, of2 hM hb ht, of1 hM hb ht, hL]
      simp only [Option.bind_some, s5, s6, hgap, q1, nI_1, q3, q5]
      have jump : d * W' + l + 1 = d * W' + (l + 1) := by omega
      rw [jump]
      have skipM := ih (l + 1) (by omega) n m M b (by omega) hM hB
      have skip12 : ∃ b' M', Bok S ch i L b' ∧ Scr M M' ∧ f3_placeByDeckRule_22 K S P i t (nI d) n (bd b) (bl b) (bf S ch i b) (nI (l + 1)) = K (bd b') (bl b') (bf S ch i b') ∧ f6_boards_19 K' (nI t) (nI s) (nI i) (m + c) M12 (bj W' b) (bf S ch i b) (bg S ch i b) (nI (d * W' + (l + 1))) = f6_boards_19 K' (nI t) (nI s) (nI i) m M' (bj W' b') (bf S ch i b') (bg S ch i b') (nI (d * W' + W')) := by
        obtain ⟨b', M', a1, a2, a3, a4⟩ := ih (l + 1) (by omega) n m M12 b (by omega) hM12 hB
        exact ⟨b', M', a1, q2.trans a2, a3, a4⟩
      have take : tl S ch i d l + L ≤ nn (S 303 i) → ∃ b' M', Bok S ch i L b' ∧ Scr M M' ∧ f3_placeByDeckRule_22 K S P i t (nI d) n (nI d) (nI l) (nI (nn (S 303 i) - tl S ch i d l)) (nI (l + 1)) = K (bd b') (bl b') (bf S ch i b') ∧ f6_boards_19 K' (nI t) (nI s) (nI i) (m + c) M12 (nI (d * W' + l)) (nI (nn (S 303 i) - tl S ch i d l)) (nI (tl S ch i d l)) (nI (d * W' + (l + 1))) = f6_boards_19 K' (nI t) (nI s) (nI i) m M' (bj W' b') (bf S ch i b') (bg S ch i b') (nI (d * W' + W')) := by
        intro hfit
        obtain ⟨b', M', a1, a2, a3, a4⟩ := ih (l + 1) (by omega) n m M12 (some (d, l)) (by omega) hM12 (fun d' l' e => by
          have e' := Option.some.inj e
          rw [← (Prod.mk.inj e').1, ← (Prod.mk.inj e').2]
          exact ⟨hd1, hl1', hfit⟩)
        exact ⟨b', M', a1, q2.trans a2, a3, a4⟩
      have both : (∃ b' M', Bok S ch i L b' ∧ Scr M M' ∧ (if v = 0 then f3_placeByDeckRule_22 K S P i t (nI d) n (bd b) (bl b) (bf S ch i b) (nI (l + 1)) else if (if tl S ch i d l + L ≤ nn (S 303 i) then nI (tl S ch i d l) else -1) = -1 then f3_placeByDeckRule_22 K S P i t (nI d) n (bd b) (bl b) (bf S ch i b) (nI (l + 1)) else f3_placeByDeckRule_22 K S P i t (nI d) n (nI d) (nI l) (nI (nn (S 303 i) - tl S ch i d l)) (nI (l + 1))) = K (bd b') (bl b') (bf S ch i b') ∧ (if v = 0 then f6_boards_19 K' (nI t) (nI s) (nI i) (m + c) M (bj W' b) (bf S ch i b) (bg S ch i b) (nI (d * W' + (l + 1))) else if (if tl S ch i d l + L ≤ nn (S 303 i) then nI (tl S ch i d l) else -1) = -1 then f6_boards_19 K' (nI t) (nI s) (nI i) (m + c) M12 (bj W' b) (bf S ch i b) (bg S ch i b) (nI (d * W' + (l + 1))) else f6_boards_19 K' (nI t) (nI s) (nI i) (m + c) M12 (nI (d * W' + l)) (nI (nn (S 303 i) - tl S ch i d l)) (if tl S ch i d l + L ≤ nn (S 303 i) then nI (tl S ch i d l) else -1) (nI (d * W' + (l + 1)))) = f6_boards_19 K' (nI t) (nI s) (nI i) m M' (bj W' b') (bf S ch i b') (bg S ch i b') (nI (d * W' + W'))) := by
        by_cases g0 : v = 0
        · rw [if_pos g0, if_pos g0]; exact skipM
        · rw [if_neg g0, if_neg g0]
          by_cases g : tl S ch i d l + L ≤ nn (S 303 i)
          · have ng : ¬ nI (tl S ch i d l) = -1 := nI_neg1 (by omega)
            rw [if_pos g, if_neg ng, if_neg ng]; exact take g
          · rw [if_neg g, if_pos rfl, if_pos rfl]; exact skip12
      cases b with
      | none =>
        rw [show bd none = -1 from rfl, show bj W' none = -1 from rfl] at both skip12 ⊢
        rw [if_pos rfl, if_pos rfl]
        exact both
      | some q =>
        obtain ⟨d0, l0⟩ := q
        obtain ⟨y1, y2, y3⟩ := hB d0 l0 rfl
        have n1 : ¬ bd (some (d0, l0)) = -1 := nI_neg1 (by omega)
        have hj0 : d0 * W' + l0 < D' * W' := jlt (by omega) (by omega)
        have n2 : ¬ bj W' (some (d0, l0)) = -1 := nI_neg1 (show d0 * W' + l0 < 2 ^ 31 by omega)
        simp only [if_neg n1, if_neg n2]
        by_cases g : bf S ch i (some (d0, l0)) ≤ nI (nn (S 303 i) - tl S ch i d l)
        · have g' : ¬ nI (nn (S 303 i) - tl S ch i d l) < bf S ch i (some (d0, l0)) := by
            rw [Int32.le_iff_toInt_le] at g; rw [Int32.lt_iff_toInt_lt]; omega
          rw [if_pos g]
          simp only [if_neg g']
          by_cases g0 : v = 0
          · rw [if_pos g0]; exact skipM
          · rw [if_neg g0]
            simp only [ite_self]; exact skip12
        · have g' : nI (nn (S 303 i) - tl S ch i d l) < bf S ch i (some (d0, l0)) := by
            rw [Int32.le_iff_toInt_le] at g; rw [Int32.lt_iff_toInt_lt]; omega
          rw [if_neg g]
          simp only [if_pos g']
          exact both
theorem outer (hC : CI k ns nc nv nt tn ch S P N) {s t i D W L : Nat} (hi : i < ns) (eD : nn (S 301 i) = D) (eW : nn (S 302 i) = W) (hs : s < nv) (hvs : vs P s = i) (h1 : S 204 s = 1) (ht : t < nt) (hL : S 402 t = nI L) (hLb : 20 ≤ L ∧ L ≤ 250) (K : Int32 → Int32 → Option (Int32 × TS × TP)) (K' : TS → Int32 → Int32 → Option (Int32 × TS)) : ∀ (c d : Nat), d + c = D → ∀ (n m : Nat) (M : TS) (b : Option (Nat × Nat)), c < n → MI ns nc nv nt tn bn S P M → Bok S ch i L b → ∃ b' M', Bok S ch i L b' ∧ Scr M M' ∧ f3_placeByDeckRule_10 K S P i t n (bd b) (bl b) (bf S ch i b) (nI d) = K (bd b') (bl b') ∧ f6_boards_19 K' (nI t) (nI s) (nI i) (m + c * W) M (bj W b) (bf S ch i b) (bg S ch i b) (nI (d * W)) = f6_boards_19 K' (nI t) (nI s) (nI i) m M' (bj W b') (bf S ch i b') (bg S ch i b') (nI (D * W)) := by
  obtain ⟨D', W', z, h1', h2', h3', h4', e1, e2, e3, e4, b1, b2, b3, b4, b5, b6, hm⟩ := dims hC.ship hi
  have eD' : D' = D := by rw [← e1, eD]
  have eW' : W' = W := by rw [← e2, eW]
  subst eD' eW'
  intro c
  induction c with
  | zero =>
    intro d hd n m M b hn hM hB
    cases n with
    | zero => omega
    | succ n =>
      have : d = D' := by omega
      subst this
      refine ⟨b, M, hB, Scr.refl M, ?_, ?_⟩
      · rw [f3_placeByDeckRule_10, h1', if_pos (Int32.le_refl _)]
      · rw [Nat.zero_mul, Nat.add_zero]
  | succ c ih =>
    intro d hd n m M b hn hM hB
    cases n with
    | zero => omega
    | succ n =>
      have hd' : d < D' := by omega
      obtain ⟨b', M', a1, a2, a3, a4⟩ := inner hC hi eD eW hs hvs h1 ht hL hLb hd' (fun (w9) (w10) (w11) => f3_placeByDeckRule_10 K S P i t n w9 w10 w11 (nI (d + 1))) K' W' 0 (by omega) FU (m + c * W') M b (by rw [FU_eq]; omega) hM hB
      obtain ⟨b2, M2, c1, c2, c3, c4⟩ := ih (d + 1) (by omega) n m M' b' (by omega) (MI_scr hM a2) a1
      refine ⟨b2, M2, c1, a2.trans c2, ?_, ?_⟩
      · rw [f3_placeByDeckRule_10, h1', if_neg (nI_ge hd' (by omega)), nI_1]
        have a3 : f3_placeByDeckRule_22 (fun (w9) (w10) (w11) => f3_placeByDeckRule_10 K S P i t n w9 w10 w11 (nI (d + 1))) S P i t (nI d) FU (bd b) (bl b) (bf S ch i b) 0 = _ := a3
        rw [a3]; exact c3
      · rw [Nat.add_mul, Nat.one_mul, ← Nat.add_assoc]
        rw [Nat.add_zero] at a4
        rw [a4, ← c4, Nat.add_mul, Nat.one_mul]
end CHOOSE
