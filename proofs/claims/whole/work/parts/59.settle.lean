/-! settle -/
section SETTLE
variable {k ns nc nv nt tn bn : Nat} {ch : Nat → Nat → List Nat} {S : TS} {P : TP} {N : TN} {M : TS}
def k161 (M4 : TS) (s : Nat) : Option (Int32 × TS) := (if M4 3100 s ≤ 0 then f6_lookAtRecall M4 (nI s) else f6_lookAtRecall (up M4 3100 s (M4 3100 s - 1)) (nI s)).bind fun M7 => some (1, M7)
theorem turn6 {M M2 : TS} {s t : Nat} (hs : s < 60) {v : Int32} (h : f6_nextTurn M (nI s) = some (v, M2)) (h6 : M2 630 0 = nI t) : f6_turn M (nI s) = if v = 0 then some (0, M2) else if v = 1 then ((f6_put M2 (nI t) (4) (2)).bind fun (M12 : TS) => f6_write M12 (0) (nI t) (nI s)).bind fun M => k161 M s else if v = 2 then (f6_goesOn M2 (nI t) (nI s)).bind fun M => k161 M s else if v = 3 then (b2 (f6_boards M2 (nI t) (nI s)) fun (v18) (M19 : TS) => if v18 = 0 then ((f6_put M19 (nI t) (4) (4)).bind fun (M21 : TS) => f6_write M21 (2) (nI t) (nI s)) else ((f6_of (up M19 3200 s (nI t)) (nI t) (3)).bind fun (v27) => f6_write (up (up M19 3200 s (nI t)) 3300 s (if v27 ≤ 0 then (1) else (0))) (1) (nI t) (nI s))).bind fun M => k161 M s else if v = 4 then ((f6_comesOff M2 (nI t)).bind fun (M34 : TS) => f6_write M34 (6) (nI t) (nI s)).bind fun M => k161 M s else (f6_goesAway M2 (nI t) (nI s)).bind fun M => k161 M s := by
  have ek : ∀ M4 : TS, (if M4 3100 s ≤ 0 then (f6_lookAtRecall M4 (nI s)).bind fun M7 => some ((1 : Int32), M7) else (f6_lookAtRecall (up M4 3100 s (M4 3100 s - 1)) (nI s)).bind fun M7 => some (1, M7)) = k161 M4 s := by
    intro M4; unfold k161; split <;> rfl
  unfold f6_turn
  rw [h, b2_some, h6, ix_nI hs (by decide)]
  simp only [Option.bind_some, lt, ek]
  by_cases e0 : v = 0
  · rw [if_pos e0, if_pos e0]
  · rw [if_neg e0, if_neg e0]
    by_cases e1 : v = 1
    · rw [if_pos e1, if_pos e1]
      cases f6_put M2 (nI t) 4 2 <;> rfl
    · rw [if_neg e1, if_neg e1]
      by_cases e2 : v = 2
      · rw [if_pos e2, if_pos e2]
      · rw [if_neg e2, if_neg e2]
        by_cases e3 : v = 3
        · rw [if_pos e3, if_pos e3]
          cases f6_boards M2 (nI t) (nI s) with
          | none => rfl
          | some q =>
            obtain ⟨v18, M19⟩ := q
            rw [b2_some, b2_some]
            by_cases e : v18 = 0
            · rw [if_pos e, if_pos e]
              cases f6_put M19 (nI t) 4 4 <;> rfl
            · rw [if_neg e, if_neg e]
              cases f6_of (up M19 3200 s (nI t)) (nI t) 3 <;> rfl
        · rw [if_neg e3, if_neg e3]
          by_cases e4 : v = 4
          · rw [if_pos e4, if_pos e4]
            cases f6_comesOff M2 (nI t) <;> rfl
          · rw [if_neg e4, if_neg e4]
theorem turn0 {M M2 : TS} {a : Int32} (h : f6_nextTurn M a = some (0, M2)) : f6_turn M a = some (0, M2) := by
  unfold f6_turn
  rw [h, b2_some]
  simp only [lt, if_true]
theorem b2_id {α β : Type} {o : Option (α × β)} : (b2 o fun a b => some (a, b)) = o := by
  cases o <;> rfl
theorem turnB (hk : k < 600) (hC : CI k ns nc nv nt tn ch S P N) (hM : MI ns nc nv nt tn bn S P M) (hn : tn + 1 ≤ 500 * k) {s : Nat} (hs : s < nv) (h1 : S 204 s = 1) (h0 : ¬ S 206 s = 0) (hR : Rex nv nt s S P) : (f5_hasBoardingTurn S P s = some 1 ∧ ∃ bn ch S' P' M', f5_doBoardingTurn S P s = some (S', P') ∧ f6_turn M (nI s) = k161 M' s ∧ CI k ns nc nv nt (tn + 1) ch S' P' N ∧ MI ns nc nv nt (tn + 1) bn S' P' M' ∧ Rex nv nt s S' P' ∧ S' 204 s = S 204 s ∧ S' 206 s = S 206 s) ∨ (f5_hasBoardingTurn S P s = some 0 ∧ ∃ M', f6_turn M (nI s) = some (0, M') ∧ Scr M M') := by
  have hv := hC.nv6
  unfold f5_doBoardingTurn
  rcases nextB hC hM hs h1 h0 with ⟨t, M', a1, a2, a3, a4, a5, a6, a7, a8⟩ | ⟨t, M', a1, a2, a3, a4, a5, a6⟩ | ⟨t, M', a1, a2, a3, a4, a5, a6, a7, a8, a9, a10⟩ | ⟨M', a1, a2, a3, a4, a5, a6, a7⟩
  · left
    refine ⟨a8, ?_⟩
    obtain ⟨bn', ch', S', P', M2, f1, f2, f3, f4, f5, f6, f7⟩ := actHere hk hC (MI_scr hM a6) hn hR a2 hs a3 a4
    refine ⟨bn', ch', S', P', M2, ?_, ?_, f3, f4, f5, f6, f7⟩
    · rw [a1]; exact f1
    · rw [turn6 (by omega) a5 a7, if_neg one_ne, if_pos rfl, f2]; rfl
  · left
    refine ⟨a6, ?_⟩
    obtain ⟨bn', ch', S', P', M2, f1, f2, f3, f4, f5, f6, f7⟩ := actRamp hk hC (MI_scr hM a4) hn hR hs a2
    refine ⟨bn', ch', S', P', M2, ?_, ?_, f3, f4, f5, f6, f7⟩
    · rw [a1, Option.bind_some]
      simp only [Option.elim_none, lt, a2, Option.elim_some, Option.bind_some, b2_id]
      exact f1
    · rw [turn6 (by omega) a3 a5, if_neg (by decide), if_neg (by decide), if_pos rfl, f2]; rfl
  · left
    refine ⟨a10, ?_⟩
    obtain ⟨bn', ch', S', P', M2, f1, f2, f3, f4, f5, f6, f7⟩ := actBoard hk hC (MI_scr hM a8) hn hR a4 hs a5 a6 h1 h0
    refine ⟨bn', ch', S', P', M2, ?_, ?_, f3, f4, f5, f6, f7⟩
    · rw [a1, Option.bind_some]
      simp only [Option.elim_none, lt, a2, a3, Option.elim_some, Option.bind_some, b2_id]
      exact f1
    · rw [turn6 (by omega) a7 a9, if_neg (by decide), if_neg (by decide), if_neg (by decide), if_pos rfl, f2]; rfl
  · right
    exact ⟨a7, M', turn0 a5, a6⟩
theorem turnR (hk : k < 600) (hC : CI k ns nc nv nt tn ch S P N) (hM : MI ns nc nv nt tn bn S P M) (hn : tn + 1 ≤ 500 * k) {s : Nat} (hs : s < nv) (h1 : S 204 s = 1) (h0 : S 206 s = 0) (hR : Rec nv nt S P) : ∃ bn ch S' P' M', f5_doRecallTurn S P s = some (S', P') ∧ f6_turn M (nI s) = k161 M' s ∧ CI k ns nc nv nt (tn + 1) ch S' P' N ∧ MI ns nc nv nt (tn + 1) bn S' P' M' ∧ Rex nv nt s S' P' ∧ S' 204 s = S 204 s ∧ S' 206 s = S 206 s := by
  have hv := hC.nv6
  have hRx : Rex nv nt s S P := fun s' hs' _ => hR s' hs'
  unfold f5_doRecallTurn
  rcases nextR hC hM hs h1 h0 with ⟨t, M', a1, a2, a3, a4, a5, a6, a7, a8⟩ | ⟨t, M', a1, a2, a3, a4, a5, a6, a7⟩ | ⟨M', a1, a2, a3, a4, a5⟩
  · obtain ⟨bn', ch', S', P', M2, f1, f2, f3, f4, f5, f6, f7⟩ := actOff hk hC (MI_scr hM a7) hn hRx a2 hs a3 a4 h0 a5
    refine ⟨bn', ch', S', P', M2, ?_, ?_, f3, f4, f5, f6, f7⟩
    · rw [a1]; exact f1
    · rw [turn6 (by omega) a6 a8, if_neg (by decide), if_neg (by decide), if_neg (by decide), if_neg (by decide), if_pos rfl, f2]; rfl
  · obtain ⟨bn', ch', S', P', M2, f1, f2, f3, f4, f5, f6, f7⟩ := actAway hk hC (MI_scr hM a6) hn hRx a3 hs a4
    refine ⟨bn', ch', S', P', M2, ?_, ?_, f3, f4, f5, f6, f7⟩
    · rw [a1, Option.bind_some]
      simp only [Option.elim_none, a2, Option.bind_some, Option.elim_some]
      exact f1
    · rw [turn6 (by omega) a5 a7, if_neg (by decide), if_neg (by decide), if_neg (by decide), if_neg (by decide), if_neg (by decide), f2]; rfl
  · obtain ⟨t, b1, b2, b3⟩ := hR s hs h1 h0
    exact absurd ⟨b2, b3⟩ (a3 t b1)
/-- one turn of a sailing on both sides, what follows it included -/
theorem oneT (hk : k < 600) (hC : CI k ns nc nv nt tn ch S P N) (hM : MI ns nc nv nt tn bn S P M) (hn : tn + 1 ≤ 500 * k) {s : Nat} (hs : s < nv) (h1 : S 204 s = 1) (hR : Rec nv nt S P) (K72 : TS → TP → Option (Int32 × TS × TP)) : (∃ bn ch S' P' M', (if (S 206 s) = 0 then (b2 (f5_doRecallTurn S P s) fun (S16 : TS) (P17 : TP) => b2 (f5_bringRecallOn S16 P17 s) K72) else (b2 (f5_doBoardingTurn S P s) fun (S11 : TS) (P12 : TP) => b2 (f5_bringRecallOn (up S11 206 s ((S11 206 s) - (if (S11 206 s) ≤ 0 then (0) else (1)))) P12 s) K72)) = K72 S' P' ∧ (S 206 s = 0 ∨ f5_hasBoardingTurn S P s = some 1) ∧ f6_turn M (nI s) = some (1, M') ∧ CI k ns nc nv nt (tn + 1) ch S' P' N ∧ MI ns nc nv nt (tn + 1) bn S' P' M' ∧ Rec nv nt S' P') ∨ (¬ S 206 s = 0 ∧ f5_hasBoardingTurn S P s = some 0 ∧ ∃ M', f6_turn M (nI s) = some (0, M') ∧ Scr M M') := by
  by_cases h0 : S 206 s = 0
  · left
    obtain ⟨bn', ch', S', P', M', f1, f2, f3, f4, f5, f6, f7⟩ := turnR hk hC hM hn hs h1 h0 hR
    have g0 : S' 206 s = 0 := by rw [f7]; exact h0
    obtain ⟨S2, P2, M2, r1, r2, r3, r4, r5⟩ := recE f3 f4 hs (by rw [f6]; exact h1) g0 f5
    refine ⟨bn', ch', S2, P2, M2, ?_, Or.inl h0, ?_, r3, r4, r5⟩
    · rw [if_pos h0, f1, b2_some, r1, b2_some]
    · rw [f2]; unfold k161
      rw [if_pos (show M' 3100 s ≤ 0 by rw [(f4.how s hs).2.2, g0]; decide), r2]; rfl
  · rcases turnB hk hC hM hn hs h1 h0 (fun s' hs' _ => hR s' hs') with ⟨f0, bn', ch', S', P', M', f1, f2, f3, f4, f5, f6, f7⟩ | ⟨f0, M', f1, f2⟩
    · left
      obtain ⟨S2, P2, M2, r1, r2, r3, r4, r5⟩ := afterB f3 f4 hs (by rw [f6]; exact h1) (by rw [f7]; exact h0) f5
      refine ⟨bn', ch', S2, P2, M2, ?_, Or.inr f0, ?_, r3, r4, r5⟩
      · rw [if_neg h0, f1, b2_some, r1, b2_some]
      · rw [f2]; unfold k161
        rw [r2]; rfl
    · exact Or.inr ⟨h0, f0, M', f1, f2⟩
theorem closed0 (hM : MI ns nc nv nt tn bn S P M) {s : Nat} (hs : s < nv) (hv : nv ≤ 60) (h1 : ¬ S 204 s = 1) : ∃ M', f6_turn M (nI s) = some (0, M') ∧ Scr M M' := by
  refine ⟨up M 630 0 (-1), turn0 ?_, (Scr.refl M).up (by omega)⟩
  unfold f6_nextTurn
  simp only [lt]
  rw [ix_nI (show s < 60 by omega) (by decide), Option.bind_some, if_neg (show ¬ up M 630 0 (-1) 2900 s = 1 from fun q => h1 (by rw [← (hM.how s hs).1]; exact q))]
/-- the search for the sailing whose turn it is, on both sides -/
theorem fst_ (hk : k < 600) (hC : CI k ns nc nv nt tn ch S P N) (hn : tn + 1 ≤ 500 * k) (hR : Rec nv nt S P) (c1 c2 : Int32) (K72 : Nat → TS → TP → Option (Int32 × TS × TP)) (K : TS → Int32 → Option (Int32 × TS)) : ∀ (n n' i : Nat) (M : TS), MI ns nc nv nt tn bn S P M → i ≤ nv → nv < i + n → nv < i + n' → (∃ s bn' ch' S' P' M', f5_firstWithTurn_2 (some none) S P n' (nI i) = some (some s) ∧ (if (S 206 s) = 0 then (b2 (f5_doRecallTurn S P s) fun (S16 : TS) (P17 : TP) => b2 (f5_bringRecallOn S16 P17 s) (K72 s)) else (b2 (f5_doBoardingTurn S P s) fun (S11 : TS) (P12 : TP) => b2 (f5_bringRecallOn (up S11 206 s ((S11 206 s) - (if (S11 206 s) ≤ 0 then (0) else (1)))) P12 s) (K72 s))) = K72 s S' P' ∧ f6_settle_31 K c1 c2 n M 0 (nI i) = K M' 1 ∧ CI k ns nc nv nt (tn + 1) ch' S' P' N ∧ MI ns nc nv nt (tn + 1) bn' S' P' M' ∧ Rec nv nt S' P') ∨ (f5_firstWithTurn_2 (some none) S P n' (nI i) = some none ∧ ∃ M', f6_settle_31 K c1 c2 n M 0 (nI i) = K M' 0 ∧ Scr M M') := by
  have hv := hC.nv6
  intro n
  induction n with
  | zero => intro n' i M hM h1 h2 h3; omega
  | succ n ih =>
    intro n' i M hM h1 h2 h3
    cases n' with
    | zero => omega
    | succ n' =>
      rw [f5_firstWithTurn_2, f6_settle_31, hC.c5, hM.cnt.2.2.1]
      rcases Nat.lt_or_ge i nv with hi | hi
      · rw [if_neg (nI_ge hi (by omega)), if_neg (nI_ge hi (by omega)), if_pos rfl, ix_nI (show i < 60 by omega) (by decide)]
        simp only [Option.bind_some, lt, hC.s9 hi, nI_1]
        have skip : ∀ M1 : TS, f6_turn M (nI i) = some (0, M1) → Scr M M1 → (∃ s bn' ch' S' P' M', f5_firstWithTurn_2 (some none) S P n' (nI (i + 1)) = some (some s) ∧ (if (S 206 s) = 0 then (b2 (f5_doRecallTurn S P s) fun (S16 : TS) (P17 : TP) => b2 (f5_bringRecallOn S16 P17 s) (K72 s)) else (b2 (f5_doBoardingTurn S P s) fun (S11 : TS) (P12 : TP) => b2 (f5_bringRecallOn (up S11 206 s ((S11 206 s) - (if (S11 206 s) ≤ 0 then (0) else (1)))) P12 s) (K72 s))) = K72 s S' P' ∧ (b2 (f6_turn M (nI i)) fun v3 M4 => f6_settle_31 K c1 c2 n M4 v3 (nI (i + 1))) = K M' 1 ∧ CI k ns nc nv nt (tn + 1) ch' S' P' N ∧ MI ns nc nv nt (tn + 1) bn' S' P' M' ∧ Rec nv nt S' P') ∨ (f5_firstWithTurn_2 (some none) S P n' (nI (i + 1)) = some none ∧ ∃ M', (b2 (f6_turn M (nI i)) fun v3 M4 => f6_settle_31 K c1 c2 n M4 v3 (nI (i + 1))) = K M' 0 ∧ Scr M M') := by
          intro M1 g1 g2
          rw [g1, b2_some]
          rcases ih n' (i + 1) M1 (MI_scr hM g2) (by omega) (by omega) (by omega) with g | ⟨g3, M', g4, g5⟩
          · exact Or.inl g
          · exact Or.inr ⟨g3, M', g4, g2.trans g5⟩
        by_cases e1 : S 204 i = 1
        · simp only [if_pos e1]
          rcases oneT hk hC hM hn hi e1 hR (K72 i) with ⟨bn', ch', S', P', M', f1, f2, f3, f4, f5, f6⟩ | ⟨f1, f2, M', f3, f4⟩
          · refine Or.inl ⟨i, bn', ch', S', P', M', ?_, f1, ?_, f4, f5, f6⟩
            · rcases f2 with f2 | f2
              · rw [if_pos f2]
              · rw [f2, Option.bind_some, if_neg one_ne]; split <;> rfl
            · rw [f3, b2_some]
              cases n with
              | zero => omega
              | succ n =>
                rw [f6_settle_31]
                split
                · rfl
                · rw [if_neg one_ne]
          · rw [if_neg f1, f2, Option.bind_some, if_pos rfl]
            exact skip M' f3 f4
        · simp only [if_neg e1]
          obtain ⟨M', f3, f4⟩ := closed0 hM hi hv e1
          exact skip M' f3 f4
      · have : i = nv := by omega
        subst this
        rw [if_pos (Int32.le_refl _), if_pos (Int32.le_refl _)]
        exact Or.inr ⟨rfl, M, rfl, Scr.refl M⟩
theorem settleL (hk : k < 600) {x : Nat} (hx : x ≤ 500) (K5 : TS → TP → Option (Int32 × TS × TP)) (K6 : TS → Int32 → Option (Int32 × TS)) : ∀ (n n' y tn bn : Nat) (ch : Nat → Nat → List Nat) (S : TS) (P : TP) (M : TS), CI k ns nc nv nt tn ch S P N → MI ns nc nv nt tn bn S P M → Rec nv nt S P → tn + (x - y) ≤ 500 * k → y ≤ x → x < y + n → x < y + n' → ∃ S' P' M' bn' tn' ch', CI k ns nc nv nt tn' ch' S' P' N ∧ MI ns nc nv nt tn' bn' S' P' M' ∧ Rec nv nt S' P' ∧ ((f5_settle_15 K5 (nI x) n S P (nI y) = K5 S' P' ∧ f6_settle_17 K6 (nI x) n' M (nI y) 1 = K6 M' (nI x)) ∨ ∃ z, f5_settle_15 K5 (nI x) n S P (nI y) = some (nI z, S', P') ∧ f6_settle_17 K6 (nI x) n' M (nI y) 1 = K6 M' (nI z)) := by
  intro n
  induction n with
  | zero => intro n' y tn bn ch S P M hC hM hR h1 h2 h3; omega
  | succ n ih =>
    intro n' y tn bn ch S P M hC hM hR h1 h2 h3 h4
    have hv := hC.nv6
    cases n' with
    | zero => omega
    | succ n' =>
      rw [f5_settle_15, f6_settle_17, if_neg one_ne]
      rcases Nat.lt_or_ge y x with hy | hy
      · rw [if_neg (nI_ge hy (by omega)), if_neg (nI_ge hy (by omega))]
        simp only [lt]
        rcases fst_ hk hC (by omega) hR (nI x) (nI y) (fun s S8 P9 => f5_settle_15 K5 (nI x) n S8 P9 (nI y + 1)) (fun (M6 : TS) (w7) => if w7 = 0 then (f6_settle_17 K6 (nI x) n' M6 (nI y) w7) else (f6_settle_17 K6 (nI x) n' M6 (nI y + 1) w7)) FU FU 0 M hM (by omega) (by rw [FU_eq]; omega) (by rw [FU_eq]; omega) with ⟨s, bn', ch', S', P', M', f1, f2, f3, f4, f5, f6⟩ | ⟨f1, M', f2, f3⟩
        · have f1 : f5_firstWithTurn S P = some (some s) := f1
          have f3 : f6_settle_31 (fun (M6 : TS) (w7) => if w7 = 0 then (f6_settle_17 K6 (nI x) n' M6 (nI y) w7) else (f6_settle_17 K6 (nI x) n' M6 (nI y + 1) w7)) (nI x) (nI y) FU M 0 0 = _ := f3
          rw [f1, f3, if_neg one_ne, Option.bind_some, Option.elim_some, nI_1]
          rw [nI_1] at f2
          obtain ⟨S2, P2, M2, bn2, tn2, ch2, r1, r2, r3, r4⟩ := ih n' (y + 1) (tn + 1) bn' ch' S' P' M' f4 f5 f6 (by omega) (by omega) (by omega) (by omega)
          refine ⟨S2, P2, M2, bn2, tn2, ch2, r1, r2, r3, ?_⟩
          have f2' := f2
          rw [f2']
          exact r4
        · have f1 : f5_firstWithTurn S P = some none := f1
          have f2 : f6_settle_31 (fun (M6 : TS) (w7) => if w7 = 0 then (f6_settle_17 K6 (nI x) n' M6 (nI y) w7) else (f6_settle_17 K6 (nI x) n' M6 (nI y + 1) w7)) (nI x) (nI y) FU M 0 0 = _ := f2
          rw [f1, f2, if_pos rfl, Option.bind_some, Option.elim_none]
          refine ⟨S, P, M', bn, tn, ch, hC, MI_scr hM f3, hR, Or.inr ⟨y, rfl, ?_⟩⟩
          cases n' with
          | zero => omega
          | succ n' => rw [f6_settle_17, if_pos rfl]
      · have : y = x := by omega
        subst this
        rw [if_pos (Int32.le_refl _), if_pos (Int32.le_refl _)]
        exact ⟨S, P, M, bn, tn, ch, hC, hM, hR, Or.inl ⟨rfl, rfl⟩⟩
theorem B_settle_ok : B_settle Inv := by
  rintro k S P N M a1 hk ⟨ns, nc, nv, nt, tn, bn, ch, hC, hM, hR⟩
  have hI : Inv (k + 1) S P N M := Inv_up _ _ _ _ _ ⟨ns, nc, nv, nt, tn, bn, ch, hC, hM, hR⟩
  unfold f5_settle f6_settle
  rw [isIn_eq]
  rcases within_c a1 0 500 with ⟨w, w1, w2⟩ | ⟨w, -⟩
  · rw [w]
    simp only [Option.bind_some, if_neg one_ne]
    obtain ⟨x, rfl, -, hx⟩ := within_nat (a := 0) (b := 500) (by decide) (by decide) w1 w2
    have htn := hC.turn.2
    obtain ⟨S', P', M', bn', tn', ch', r1, r2, r3, r4⟩ := settleL (k := k + 1) (by omega) hx (fun (S19 : TS) (P20 : TP) => some (nI x, S19, P20)) (fun (M8 : TS) (w9) => some (w9, M8)) FU FU 0 tn bn ch S P M hC.up_k hM hR (by omega) (by omega) (by rw [FU_eq]; omega) (by rw [FU_eq]; omega)
    rcases r4 with ⟨r4, r5⟩ | ⟨z, r4, r5⟩
    · exact ⟨_, S', P', M', r4, r5, ⟨ns, nc, nv, nt, tn', bn', ch', r1, r2, r3⟩⟩
    · exact ⟨_, S', P', M', r4, r5, ⟨ns, nc, nv, nt, tn', bn', ch', r1, r2, r3⟩⟩
  · rw [w]; exact ⟨_, _, _, _, rfl, rfl, hI⟩
end SETTLE
