/-! what turn comes next, on both sides; a recall comes on -/
section TURN
variable {k ns nc nv nt tn bn : Nat} {ch : Nat → Nat → List Nat} {S : TS} {P : TP} {N : TN} {M : TS}
theorem nextB (hC : CI k ns nc nv nt tn ch S P N) (hM : MI ns nc nv nt tn bn S P M) {s : Nat} (hs : s < nv) (h1 : S 204 s = 1) (h0 : ¬ S 206 s = 0) : (∃ t M', f5_firstHere S P s = some (some t) ∧ t < nt ∧ sl P t = s ∧ S 406 t = 1 ∧ f6_nextTurn M (nI s) = some (1, M') ∧ Scr M M' ∧ M' 630 0 = nI t ∧ f5_hasBoardingTurn S P s = some 1) ∨ (∃ t M', f5_firstHere S P s = some none ∧ P 207 s 0 = some t ∧ f6_nextTurn M (nI s) = some (2, M') ∧ Scr M M' ∧ M' 630 0 = nI t ∧ f5_hasBoardingTurn S P s = some 1) ∨ (∃ t M', f5_firstHere S P s = some none ∧ P 207 s 0 = none ∧ f5_firstOfBoardingList S P s = some (some t) ∧ t < nt ∧ sl P t = s ∧ S 406 t = 2 ∧ f6_nextTurn M (nI s) = some (3, M') ∧ Scr M M' ∧ M' 630 0 = nI t ∧ f5_hasBoardingTurn S P s = some 1) ∨ (∃ M', f5_firstHere S P s = some none ∧ P 207 s 0 = none ∧ f5_firstOfBoardingList S P s = some none ∧ (∀ t, t < nt → ¬ (sl P t = s ∧ (S 406 t = 1 ∨ S 406 t = 2))) ∧ f6_nextTurn M (nI s) = some (0, M') ∧ Scr M M' ∧ f5_hasBoardingTurn S P s = some 0) := by
  have hb := hC.nt4
  have hv := hC.nv6
  have hj : ix (nI s) 60 = some s := ix_nI (show s < 60 by omega) (by decide)
  have hs1 : Scr M (up M 630 0 (-1)) := (Scr.refl M).up (by omega)
  have hM1 := MI_scr hM hs1
  have e6 : f6_nextTurn M (nI s) = f6_nextTurn_34 (fun (M13 : TS) =>
  if (M13 630 0) = (-1) then
  ((ix (nI s) 60).bind fun (j14 : Nat) =>
  if (M13 3200 j14) = (-1) then
  (f6_nextTurn_133 (fun (M22 : TS) =>
  if (M22 630 0) = (-1) then
  (some ((0), M22))
  else
  (some ((3), M22))) (nI s) FU M13 (0))
  else
  ((ix (nI s) 60).bind fun (j23 : Nat) =>
  lt (up M13 630 0 (M13 3200 j23)) fun (M24 : TS) =>
  some ((2), M24)))
  else
  (some ((1), M13))) (nI s) FU (up M 630 0 (-1)) (0) := by
    unfold f6_nextTurn
    simp only [lt]
    rw [hj]
    simp only [Option.bind_some]
    rw [if_pos (show up M 630 0 (-1) 2900 s = 1 from ((hM.how s hs).1).trans h1), if_pos (show up M 630 0 (-1) 3400 s = 0 from by
      have := hM.off s hs (Or.inr h1)
      rw [if_neg h0] at this; exact this)]
  rw [e6]
  obtain ⟨r, M1, g1, g2, g3, g4, g5, g6⟩ := fh hC hs (fun w6 => some w6) (fun (M13 : TS) =>
  if (M13 630 0) = (-1) then
  ((ix (nI s) 60).bind fun (j14 : Nat) =>
  if (M13 3200 j14) = (-1) then
  (f6_nextTurn_133 (fun (M22 : TS) =>
  if (M22 630 0) = (-1) then
  (some ((0), M22))
  else
  (some ((3), M22))) (nI s) FU M13 (0))
  else
  ((ix (nI s) 60).bind fun (j23 : Nat) =>
  lt (up M13 630 0 (M13 3200 j23)) fun (M24 : TS) =>
  some ((2), M24)))
  else
  (some ((1), M13))) FU 0 none (up M 630 0 (-1)) hM1 (fun x hx => absurd hx (by simp)) up_v (by omega) (by rw [FU_eq]; omega)
  have g2' := g2
  rw [show nI 0 = 0 from rfl] at g2'
  rw [g2']
  have gh : f5_firstHere S P s = some r := g1
  rw [gh]
  have sc1 := hs1.trans g3
  have hM2 := MI_scr hM sc1
  have ht : f5_hasBoardingTurn S P s = some 1 ∧ (¬ P 207 s 0 = none ∨ ∃ t, t < nt ∧ sl P t = s ∧ (S 406 t = 1 ∨ S 406 t = 2)) ∨ f5_hasBoardingTurn S P s = some 0 ∧ P 207 s 0 = none ∧ ∀ t, t < nt → ¬ (sl P t = s ∧ (S 406 t = 1 ∨ S 406 t = 2)) := by
    unfold f5_hasBoardingTurn
    simp only [lt]
    cases hp : P 207 s 0 with
    | some t => exact Or.inl ⟨rfl, Or.inl (by simp)⟩
    | none =>
      simp only [Option.elim_none]
      rcases hb11 hC hs (some 0) FU 0 (by omega) (by rw [FU_eq]; omega) with ⟨t, a, b, c, d⟩ | ⟨a, b⟩
      · exact Or.inl ⟨d, Or.inr ⟨t, a, b, c⟩⟩
      · exact Or.inr ⟨b, trivial, fun t => a t (Nat.zero_le _)⟩
  have yes : (¬ P 207 s 0 = none ∨ ∃ t, t < nt ∧ sl P t = s ∧ (S 406 t = 1 ∨ S 406 t = 2)) → f5_hasBoardingTurn S P s = some 1 := by
    rintro q
    rcases ht with ⟨h, -⟩ | ⟨-, h, h'⟩
    · exact h
    · rcases q with q | ⟨t, a, b⟩
      · exact absurd h q
      · exact absurd b (h' t a)
  cases r with
  | some t =>
    obtain ⟨a, b, c⟩ := g5 t rfl
    refine Or.inl ⟨t, M1, rfl, a, b, c, ?_, sc1, g4, yes (Or.inr ⟨t, a, b, Or.inl c⟩)⟩
    rw [if_neg (show ¬ M1 630 0 = -1 by rw [g4]; exact nI_neg1 (by omega))]
  | none =>
    refine Or.inr ?_
    rw [if_pos (show M1 630 0 = -1 from g4), hj]
    simp only [Option.bind_some, lt]
    obtain ⟨r1, r2⟩ := hM2.ramp s hs
    rw [r1]
    cases hp : P 207 s 0 with
    | some t =>
      have htn := (hC.ramp s t hs hp).1
      rw [if_neg (show ¬ oI (some t) = -1 from nI_neg1 (by omega))]
      exact Or.inl ⟨t, _, trivial, rfl, rfl, sc1.up (by omega), up_v, yes (Or.inl (by rw [hp]; simp))⟩
    | none =>
      rw [if_pos (show oI none = -1 from rfl)]
      refine Or.inr ?_
      obtain ⟨r, M3, f1, f2, f3, f4, f5, f6⟩ := fl hC hs (fun w6 => some w6) (fun (M22 : TS) =>
  if (M22 630 0) = (-1) then
  (some ((0), M22))
  else
  (some ((3), M22))) FU 0 none M1 hM2 (fun x hx => absurd hx (by simp)) g4 (by omega) (by rw [FU_eq]; omega)
      have f2' := f2
      rw [show nI 0 = 0 from rfl] at f2'
      rw [f2', show f5_firstOfBoardingList S P s = some r from f1]
      cases r with
      | some t =>
        obtain ⟨a, b, c⟩ := f5 t rfl
        refine Or.inl ⟨t, M3, trivial, rfl, rfl, a, b, c, ?_, sc1.trans f3, f4, yes (Or.inr ⟨t, a, b, Or.inr c⟩)⟩
        rw [if_neg (show ¬ M3 630 0 = -1 by rw [f4]; exact nI_neg1 (by omega))]
      | none =>
        have hno : ∀ t, t < nt → ¬ (sl P t = s ∧ (S 406 t = 1 ∨ S 406 t = 2)) := by
          rintro t a ⟨b, c | c⟩
          · exact (g6 rfl).2 t (Nat.zero_le _) a ⟨b, c⟩
          · exact (f6 rfl).2 t (Nat.zero_le _) a ⟨b, c⟩
        refine Or.inr ⟨M3, trivial, rfl, rfl, hno, ?_, sc1.trans f3, ?_⟩
        · rw [if_pos (show M3 630 0 = -1 from f4)]
        · rcases ht with ⟨-, q | ⟨t, a, b⟩⟩ | ⟨h, -⟩
          · exact absurd hp q
          · exact absurd b (hno t a)
          · exact h
theorem nextR (hC : CI k ns nc nv nt tn ch S P N) (hM : MI ns nc nv nt tn bn S P M) {s : Nat} (hs : s < nv) (h1 : S 204 s = 1) (h0 : S 206 s = 0) : (∃ t M', f5_latestAboard S P s = some (some t) ∧ t < nt ∧ sl P t = s ∧ S 406 t = 3 ∧ (∀ u, u < nt → sl P u = s → S 406 u = 3 → S 414 u ≤ S 414 t) ∧ f6_nextTurn M (nI s) = some (4, M') ∧ Scr M M' ∧ M' 630 0 = nI t) ∨ (∃ t M', f5_latestAboard S P s = some none ∧ f5_firstToMoveOn S P s = some (some t) ∧ t < nt ∧ Mv S P s t ∧ f6_nextTurn M (nI s) = some (5, M') ∧ Scr M M' ∧ M' 630 0 = nI t) ∨ (∃ M', f5_latestAboard S P s = some none ∧ f5_firstToMoveOn S P s = some none ∧ (∀ t, t < nt → ¬ (sl P t = s ∧ S 406 t ≤ 4)) ∧ f6_nextTurn M (nI s) = some (0, M') ∧ Scr M M') := by
  have hb := hC.nt4
  have hv := hC.nv6
  have hj : ix (nI s) 60 = some s := ix_nI (show s < 60 by omega) (by decide)
  have hs1 : Scr M (up M 630 0 (-1)) := (Scr.refl M).up (by omega)
  have hM1 := MI_scr hM hs1
  have e6 : f6_nextTurn M (nI s) = f6_recallTurn (up M 630 0 (-1)) (nI s) := by
    unfold f6_nextTurn
    simp only [lt]
    rw [hj]
    simp only [Option.bind_some]
    rw [if_pos (show up M 630 0 (-1) 2900 s = 1 from ((hM.how s hs).1).trans h1), if_neg (show ¬ up M 630 0 (-1) 3400 s = 0 from by
      have := hM.off s hs (Or.inr h1)
      rw [if_pos h0] at this
      show ¬ M 3400 s = 0
      rw [this]; exact one_ne)]
    cases f6_recallTurn (up M 630 0 (-1)) (nI s) <;> rfl
  rw [e6]
  unfold f6_recallTurn
  obtain ⟨r, M1, g1, g2, g3, g4, g5, g6⟩ := la hC hs (fun w6 => some w6) (fun (M6 : TS) =>
  if (M6 630 0) = (-1) then
  (f6_recallTurn_73 (fun (M12 : TS) =>
  if (M12 630 0) = (-1) then
  (some ((0), M12))
  else
  (some ((5), M12))) (nI s) FU M6 ((M6 623 0) - (1)))
  else
  (some ((4), M6))) FU 0 none (up M 630 0 (-1)) hM1 (fun x hx => absurd hx (by simp)) (fun _ t h => absurd h (Nat.not_lt_zero _)) up_v (by omega) (by rw [FU_eq]; omega)
  have g2' := g2
  rw [show nI 0 = 0 from rfl] at g2'
  rw [g2', show f5_latestAboard S P s = some r from g1]
  have sc1 := hs1.trans g3
  have hM2 := MI_scr hM sc1
  cases r with
  | some t =>
    obtain ⟨a, b, c, d⟩ := g5 t rfl
    refine Or.inl ⟨t, M1, rfl, a, b, c, d, ?_, sc1, g4⟩
    rw [if_neg (show ¬ M1 630 0 = -1 by rw [g4]; exact nI_neg1 (by omega))]
  | none =>
    refine Or.inr ?_
    rw [if_pos (show M1 630 0 = -1 from g4), hM2.cnt.2.2.2, show nI nt - 1 = yy nt by rw [← yy_dec]; exact Int32.sub_eq_add_neg ..]
    obtain ⟨M3, f1, f2, f3⟩ := fmv6 hC hs (fun (M12 : TS) =>
  if (M12 630 0) = (-1) then
  (some ((0), M12))
  else
  (some ((5), M12))) FU nt M1 hM2 (by rw [FU_eq]; omega) (Nat.le_refl _)
    rw [f1]
    rcases fmv5 hC hs (some none) FU 0 (by omega) (by rw [FU_eq]; omega) with ⟨t, -, a, b, c, d⟩ | ⟨a, b⟩
    · have d : f5_firstToMoveOn S P s = some (some t) := d
      rcases f3 with ⟨t', e1, e2, e3, e4⟩ | ⟨e1, -⟩
      · have : t = t' := by
          rcases Nat.lt_trichotomy t t' with q | q | q
          · exact absurd b (e3 t q)
          · exact q
          · exact absurd e2 (c t' (Nat.zero_le _) q)
        subst this
        refine Or.inl ⟨t, M3, rfl, d, a, b, ?_, sc1.trans f2, e4⟩
        rw [if_neg (show ¬ M3 630 0 = -1 by rw [e4]; exact nI_neg1 (by omega))]
      · exact absurd b (e1 t a)
    · have b : f5_firstToMoveOn S P s = some none := b
      rcases f3 with ⟨t', e1, e2, e3, e4⟩ | ⟨e1, e2⟩
      · exact absurd e2 (a t' (Nat.zero_le _) e1)
      · refine Or.inr ⟨M3, rfl, b, ?_, ?_, sc1.trans f2⟩
        · rintro t ht ⟨q1, q2⟩
          exact e1 t ht ⟨q1, q2, fun q3 => g6 rfl t ht ⟨q1, q3⟩⟩
        · rw [if_pos (show M3 630 0 = -1 by rw [e2]; exact g4)]
theorem hasT {M M' : TS} {a v : Int32} (h : f6_nextTurn M a = some (v, M')) : f6_hasTurn M a = some (if v = 0 then 0 else 1, M') := by
  unfold f6_hasTurn
  rw [h]
  show (if v = 0 then some (0, M') else some (1, M')) = _
  split <;> rfl
def Rex (nv nt s : Nat) (S : TS) (P : TP) : Prop := ∀ s', s' < nv → s' ≠ s → S 204 s' = 1 → S 206 s' = 0 → ∃ t, t < nt ∧ sl P t = s' ∧ S 406 t ≤ 4
/-- a recall that is on: the sailing ends once nobody is left -/
theorem recD (hC : CI k ns nc nv nt tn ch S P N) (hM : MI ns nc nv nt tn bn S P M) {s : Nat} (hs : s < nv) (h1 : S 204 s = 1) (h0 : S 206 s = 0) (hR : Rex nv nt s S P) : ∃ S' M', ((f5_latestAboard S P s).bind fun (r4 : Option Nat) => r4.elim ((f5_firstToMoveOn S P s).bind fun (r7 : Option Nat) => r7.elim (some (up S 204 s (3), P)) (fun (t9 : Nat) => some (S, P))) (fun (t6 : Nat) => some (S, P))) = some (S', P) ∧ (b2 (f6_hasTurn M (nI s)) fun (v5) (M6 : TS) => if v5 = 0 then ((ix (nI s) 60).bind fun (j8 : Nat) => some (up M6 2900 j8 (3))) else (some M6)) = some M' ∧ CI k ns nc nv nt tn ch S' P N ∧ MI ns nc nv nt tn bn S' P M' ∧ Rec nv nt S' P := by
  have hv := hC.nv6
  have p0 := (hC.how s hs).2.2.2 h0
  have full : (∃ t, t < nt ∧ sl P t = s ∧ S 406 t ≤ 4) → Rec nv nt S P := by
    intro hx s' hs' q1 q2
    by_cases e : s' = s
    · rw [e]; exact hx
    · exact hR s' hs' e q1 q2
  rcases nextR hC hM hs h1 h0 with ⟨t, M', a1, a2, a3, a4, a5, a6, a7, a8⟩ | ⟨t, M', a1, a2, a3, a4, a5, a6, a7⟩ | ⟨M', a1, a2, a3, a4, a5⟩
  · rw [a1, hasT a6]
    exact ⟨S, M', rfl, rfl, hC, MI_scr hM a7, full ⟨t, a2, a3, by rw [a4]; decide⟩⟩
  · rw [a1, hasT a5, a2]
    exact ⟨S, M', rfl, rfl, hC, MI_scr hM a6, full ⟨t, a3, a4.1, a4.2.1⟩⟩
  · rw [a1, hasT a4, a2]
    refine ⟨up S 204 s 3, up M' 2900 s 3, rfl, ?_, ?_, ?_, ?_⟩
    · show (if (0 : Int32) = 0 then (ix (nI s) 60).bind fun j8 => some (up M' 2900 j8 3) else some M') = _
      rw [if_pos rfl, ix_nI (show s < 60 by omega) (by decide)]; rfl
    · have n3 : ¬ (3 : Int32) = 1 := by decide
      refine ⟨hC.cnt, hC.ship, hC.cab, hC.cabn, hC.sail, ?_, ?_, ?_, hC.tick, ?_, hC.cb, hC.tk, hC.uq, hC.std, hC.turn, hC.brd, hC.lnk, hC.mem, hC.dl, hC.ctg⟩
      · intro s' hs'
        obtain ⟨a, b, c, d⟩ := hC.how s' hs'
        refine ⟨?_, b, ?_, d⟩
        · rw [up_eq]; split
          · exact Or.inr (Or.inr (Or.inr rfl))
          · exact a
        · rw [up_eq]; split
          · intro e; exact absurd e (by decide)
          · exact c
      · intro s1 s2 q1 q2
        rw [up_eq, up_eq]
        intro e1 e2 e3
        by_cases g1 : s1 = s
        · rw [if_pos g1] at e1; exact absurd e1 n3
        · by_cases g2 : s2 = s
          · rw [if_pos g2] at e2; exact absurd e2 n3
          · rw [if_neg g1] at e1; rw [if_neg g2] at e2; exact hC.one s1 s2 q1 q2 e1 e2 e3
      · intro s' t hs' hp
        obtain ⟨a, b, c, d, e⟩ := hC.ramp s' t hs' hp
        refine ⟨a, b, c, ?_, e⟩
        by_cases g : s' = s
        · rw [g, p0] at hp; exact absurd hp (by simp)
        · rw [up_i g]; exact d
      · intro t ht h3
        have h3 : S 406 t = 3 := h3
        by_cases g : sl P t = s
        · exact absurd ⟨g, by rw [h3]; decide⟩ (a3 t ht)
        · rw [up_i g]; exact hC.ab t ht h3
    · have hM' := MI_scr hM a5
      refine ⟨hM'.cnt, hM'.ship, hM'.cab, hM'.sail, ?_, ?_, hM'.ramp, hM'.tick, hM'.turn, hM'.brd, hM'.log, ?_⟩
      · intro s' hs'
        obtain ⟨a, b⟩ := hM'.how s' hs'
        refine ⟨?_, b⟩
        rw [up_eq, up_eq, a]
      · intro s' hs' g
        by_cases e : s' = s
        · rw [e, up_v] at g; exact absurd g (by decide)
        · rw [up_i e] at g; exact hM'.off s' hs' g
      · intro s' hs'
        obtain ⟨a, b⟩ := hM'.new s' hs'
        refine ⟨?_, b⟩
        rw [up_eq, if_neg (by omega)]; exact a
    · intro s' hs' q1 q2
      by_cases e : s' = s
      · rw [e, up_v] at q1; exact absurd q1 (by decide)
      · rw [up_i e] at q1; exact hR s' hs' e q1 q2
end TURN
