/-! the other searches of a turn; what turn comes next -/
section NEXT
variable {k ns nc nv nt tn bn : Nat} {ch : Nat → Nat → List Nat} {S : TS} {P : TP} {N : TN} {M : TS}
theorem late5 (hC : CI k ns nc nv nt tn ch S P N) {t s : Nat} (ht : t < nt) (hs : sl P t = s) : f4_isLate S P t = some (if S 407 t ≤ S 202 s - 30 then 0 else 1) := by
  unfold f4_isLate
  simp only [lt, hC.t4 ht, Option.bind_some, hs]
  split <;> rfl
theorem late6 (hC : CI k ns nc nv nt tn ch S P N) (hM : MI ns nc nv nt tn bn S P M) {t s : Nat} (ht : t < nt) (hs : s < nv) : f6_isLate M (nI t) (nI s) = some (if S 407 t ≤ S 202 s - 30 then 0 else 1) := by
  have hv := hC.nv6
  unfold f6_isLate
  rw [of5 hM hC.nt4 ht, Option.bind_some, ix_nI (show s < 60 by omega) (by decide), Option.bind_some, (hM.sail s hs).2.1]
  split <;> rfl
theorem ahead (hC : CI k ns nc nv nt tn ch S P N) (hM : MI ns nc nv nt tn bn S P M) {t u s : Nat} (ht : t < nt) (hu : u < nt) (hs : s < nv) (e1 : sl P t = s) (e2 : sl P u = s) (hlt : u < t) : ∃ v : Int32, f4_boardsAheadOf S P t u = some v ∧ f6_isAhead M (nI t) (nI u) (nI s) = some v := by
  have hb := hC.nt4
  unfold f4_boardsAheadOf f6_isAhead
  rw [late5 hC ht e1, late5 hC hu e2, late6 hC hM ht hs, late6 hC hM hu hs, of2 hM hb ht, of2 hM hb hu, (hC.tick t ht).2.1, (hC.tick u hu).2.1]
  simp only [Option.bind_some]
  by_cases g : (if S 407 t ≤ S 202 s - 30 then (0 : Int32) else 1) = (if S 407 u ≤ S 202 s - 30 then 0 else 1)
  · rw [if_pos g, if_pos g]
    by_cases g2 : S 403 t = S 403 u
    · rw [if_pos g2, if_pos (nI_le (by omega) (by omega)), if_pos (by rw [g2]; exact Int32.le_refl _)]
      exact ⟨0, rfl, rfl⟩
    · rw [if_neg g2]
      by_cases g3 : S 403 t ≤ S 403 u
      · rw [if_pos g3]; exact ⟨0, rfl, rfl⟩
      · rw [if_neg g3]; exact ⟨1, rfl, rfl⟩
  · rw [if_neg g, if_neg g]
    by_cases g2 : S 407 u ≤ S 202 s - 30
    · rw [if_pos g2]; exact ⟨0, rfl, rfl⟩
    · rw [if_neg g2]; exact ⟨1, rfl, rfl⟩
theorem fl (hC : CI k ns nc nv nt tn ch S P N) {s : Nat} (hs : s < nv) (K : Option Nat → Option (Option Nat)) (K' : TS → Option (Int32 × TS)) : ∀ (n i : Nat) (y : Option Nat) (M : TS), MI ns nc nv nt tn bn S P M → (∀ x, y = some x → x < nt ∧ sl P x = s ∧ S 406 x = 2 ∧ x < i) → M 630 0 = oI y → i ≤ nt → nt < i + n → ∃ r M', f5_firstOfBoardingList_4 K S P s n y (nI i) = K r ∧ f6_nextTurn_133 K' (nI s) n M (nI i) = K' M' ∧ Scr M M' ∧ M' 630 0 = oI r ∧ (∀ x, r = some x → x < nt ∧ sl P x = s ∧ S 406 x = 2) ∧ (r = none → y = none ∧ ∀ t, i ≤ t → t < nt → ¬ (sl P t = s ∧ S 406 t = 2)) := by
  have hb := hC.nt4
  have hv := hC.nv6
  intro n
  induction n with
  | zero => intro i y M hM hy h6 h1 h2; omega
  | succ n ih =>
    intro i y M hM hy h6 h1 h2
    rw [f5_firstOfBoardingList_4, f6_nextTurn_133, hC.c7, hM.cnt.2.2.2]
    rcases Nat.lt_or_ge i nt with hi | hi
    · have hsl := hC.t5 hi
      rw [if_neg (nI_ge hi (by omega)), if_neg (nI_ge hi (by omega)), ix_nI (by omega) (by decide)]
      simp only [Option.bind_some, lt, hC.t1 hi, hC.t4 hi, some_eq, of0 hM hb hi, of4 hM hb hi, nI_1, show (nI (sl P i) = nI s) = (sl P i = s) from propext (nI_eq (by omega) (by omega))]
      have skip : (y = none → ¬ (sl P i = s ∧ S 406 i = 2)) → ∃ r M', f5_firstOfBoardingList_4 K S P s n y (nI (i + 1)) = K r ∧ f6_nextTurn_133 K' (nI s) n M (nI (i + 1)) = K' M' ∧ Scr M M' ∧ M' 630 0 = oI r ∧ (∀ x, r = some x → x < nt ∧ sl P x = s ∧ S 406 x = 2) ∧ (r = none → y = none ∧ ∀ t, i ≤ t → t < nt → ¬ (sl P t = s ∧ S 406 t = 2)) := by
        intro hno
        obtain ⟨r, M', a, b, c, d, e, f⟩ := ih (i + 1) y M hM (fun x hx => by obtain ⟨a, b, c, d⟩ := hy x hx; exact ⟨a, b, c, by omega⟩) h6 (by omega) (by omega)
        refine ⟨r, M', a, b, c, d, e, fun hr => ⟨(f hr).1, fun t q1 q2 => ?_⟩⟩
        rcases Nat.eq_or_lt_of_le q1 with g | g
        · rw [← g]; exact hno (f hr).1
        · exact (f hr).2 t g q2
      have take : sl P i = s → S 406 i = 2 → ∃ r M', f5_firstOfBoardingList_4 K S P s n (some i) (nI (i + 1)) = K r ∧ f6_nextTurn_133 K' (nI s) n (up M 630 0 (nI i)) (nI (i + 1)) = K' M' ∧ Scr M M' ∧ M' 630 0 = oI r ∧ (∀ x, r = some x → x < nt ∧ sl P x = s ∧ S 406 x = 2) ∧ (r = none → y = none ∧ ∀ t, i ≤ t → t < nt → ¬ (sl P t = s ∧ S 406 t = 2)) := by
        intro e1 e2
        have hsc : Scr M (up M 630 0 (nI i)) := (Scr.refl M).up (by omega)
        obtain ⟨r, M', a, b, c, d, e, f⟩ := ih (i + 1) (some i) (up M 630 0 (nI i)) (MI_scr hM hsc) (fun x hx => by rw [← Option.some.inj hx]; exact ⟨hi, e1, e2, by omega⟩) up_v (by omega) (by omega)
        exact ⟨r, M', a, b, hsc.trans c, d, e, fun hr => absurd (f hr).1 (by simp)⟩
      by_cases e1 : sl P i = s
      · simp only [if_pos e1]
        by_cases e2 : S 406 i = 2
        · simp only [if_pos e2]
          cases y with
          | none =>
            rw [h6, if_pos (show oI none = -1 from rfl)]
            exact take e1 e2
          | some x =>
            obtain ⟨hx, x1, x2, x3⟩ := hy x rfl
            obtain ⟨v, v5, v6⟩ := ahead hC hM hi hx hs e1 x1 x3
            rw [h6, if_neg (show ¬ oI (some x) = -1 from nI_neg1 (by omega)), show f6_isAhead M (nI i) (oI (some x)) (nI s) = some v from v6]
            simp only [Option.elim_some, Option.bind_some, v5]
            by_cases e3 : v = 0
            · simp only [if_pos e3]; exact skip (fun q => absurd q (by simp))
            · simp only [if_neg e3]; exact take e1 e2
        · simp only [if_neg e2]; exact skip (fun _ q => e2 q.2)
      · simp only [if_neg e1]; exact skip (fun _ q => e1 q.1)
    · have : i = nt := by omega
      subst this
      rw [if_pos (Int32.le_refl _), if_pos (Int32.le_refl _)]
      exact ⟨y, M, rfl, rfl, Scr.refl M, h6, fun x hx => by obtain ⟨a, b, c, -⟩ := hy x hx; exact ⟨a, b, c⟩, fun hr => ⟨hr, fun t q1 q2 => by omega⟩⟩
theorem la (hC : CI k ns nc nv nt tn ch S P N) {s : Nat} (hs : s < nv) (K : Option Nat → Option (Option Nat)) (K' : TS → Option (Int32 × TS)) : ∀ (n i : Nat) (y : Option Nat) (M : TS), MI ns nc nv nt tn bn S P M → (∀ x, y = some x → x < nt ∧ sl P x = s ∧ S 406 x = 3 ∧ ∀ t, t < i → t < nt → sl P t = s → S 406 t = 3 → S 414 t ≤ S 414 x) → (y = none → ∀ t, t < i → t < nt → ¬ (sl P t = s ∧ S 406 t = 3)) → M 630 0 = oI y → i ≤ nt → nt < i + n → ∃ r M', f5_latestAboard_4 K S P s n y (nI i) = K r ∧ f6_recallTurn_2 K' (nI s) n M (nI i) = K' M' ∧ Scr M M' ∧ M' 630 0 = oI r ∧ (∀ x, r = some x → x < nt ∧ sl P x = s ∧ S 406 x = 3 ∧ ∀ t, t < nt → sl P t = s → S 406 t = 3 → S 414 t ≤ S 414 x) ∧ (r = none → ∀ t, t < nt → ¬ (sl P t = s ∧ S 406 t = 3)) := by
  have hb := hC.nt4
  have hv := hC.nv6
  intro n
  induction n with
  | zero => intro i y M hM hy hn h6 h1 h2; omega
  | succ n ih =>
    intro i y M hM hy hn h6 h1 h2
    rw [f5_latestAboard_4, f6_recallTurn_2, hC.c7, hM.cnt.2.2.2]
    rcases Nat.lt_or_ge i nt with hi | hi
    · have hsl := hC.t5 hi
      rw [if_neg (nI_ge hi (by omega)), if_neg (nI_ge hi (by omega)), ix_nI (by omega) (by decide), isAb hM hb hv hi hsl hs]
      simp only [Option.bind_some, lt, hC.t1 hi, hC.t4 hi, some_eq, nI_1]
      have skip : ¬ (sl P i = s ∧ S 406 i = 3) → ∃ r M', f5_latestAboard_4 K S P s n y (nI (i + 1)) = K r ∧ f6_recallTurn_2 K' (nI s) n M (nI (i + 1)) = K' M' ∧ Scr M M' ∧ M' 630 0 = oI r ∧ (∀ x, r = some x → x < nt ∧ sl P x = s ∧ S 406 x = 3 ∧ ∀ t, t < nt → sl P t = s → S 406 t = 3 → S 414 t ≤ S 414 x) ∧ (r = none → ∀ t, t < nt → ¬ (sl P t = s ∧ S 406 t = 3)) := by
        intro hno
        refine ih (i + 1) y M hM (fun x hx => ?_) (fun h t q1 q2 => ?_) h6 (by omega) (by omega)
        · obtain ⟨a, b, c, d⟩ := hy x hx
          refine ⟨a, b, c, fun t q1 q2 q3 q4 => ?_⟩
          rcases Nat.eq_or_lt_of_le (Nat.le_of_lt_succ q1) with g | g
          · rw [g] at q3 q4; exact absurd ⟨q3, q4⟩ hno
          · exact d t g q2 q3 q4
        · rcases Nat.eq_or_lt_of_le (Nat.le_of_lt_succ q1) with g | g
          · rw [g]; exact hno
          · exact hn h t g q2
      have take : sl P i = s → S 406 i = 3 → (∀ x, y = some x → S 414 x ≤ S 414 i) → ∃ r M', f5_latestAboard_4 K S P s n (some i) (nI (i + 1)) = K r ∧ f6_recallTurn_2 K' (nI s) n (up M 630 0 (nI i)) (nI (i + 1)) = K' M' ∧ Scr M M' ∧ M' 630 0 = oI r ∧ (∀ x, r = some x → x < nt ∧ sl P x = s ∧ S 406 x = 3 ∧ ∀ t, t < nt → sl P t = s → S 406 t = 3 → S 414 t ≤ S 414 x) ∧ (r = none → ∀ t, t < nt → ¬ (sl P t = s ∧ S 406 t = 3)) := by
        intro e1 e2 e3
        have hsc : Scr M (up M 630 0 (nI i)) := (Scr.refl M).up (by omega)
        obtain ⟨r, M', a, b, c, d, e, f⟩ := ih (i + 1) (some i) (up M 630 0 (nI i)) (MI_scr hM hsc) (fun x hx => by
          rw [← Option.some.inj hx]
          refine ⟨hi, e1, e2, fun t q1 q2 q3 q4 => ?_⟩
          rcases Nat.eq_or_lt_of_le (Nat.le_of_lt_succ q1) with g | g
          · rw [g]; exact Int32.le_refl _
          · cases y with
            | none => exact absurd ⟨q3, q4⟩ (hn rfl t g q2)
            | some x => exact Int32.le_trans ((hy x rfl).2.2.2 t g q2 q3 q4) (e3 x rfl)) (fun h => absurd h (by simp)) up_v (by omega) (by omega)
        exact ⟨r, M', a, b, hsc.trans c, d, e, f⟩
      by_cases e1 : sl P i = s
      · simp only [if_pos e1]
        by_cases e2 : S 406 i = 3
        · have w : sl P i = s ∧ S 406 i = 3 := ⟨e1, e2⟩
          simp only [if_pos e2, if_pos w, if_neg one_ne]
          cases y with
          | none =>
            rw [h6, if_pos (show oI none = -1 from rfl)]
            exact take e1 e2 (fun x hx => absurd hx (by simp))
          | some x =>
            obtain ⟨hx, x1, x2, x3⟩ := hy x rfl
            rw [h6, if_neg (show ¬ oI (some x) = -1 from nI_neg1 (by omega)), show ix (oI (some x)) 400 = some x from ix_nI (by omega) (by decide)]
            simp only [Option.elim_some, Option.bind_some]
            have iff1 := hM.brd.2 x i hx hi x2 e2
            have q5 : S 414 i ≤ S 414 x ↔ ¬ S 414 x < S 414 i := by rw [Int32.le_iff_toInt_le, Int32.lt_iff_toInt_lt]; omega
            have q6 : M 3600 i ≤ M 3600 x ↔ ¬ M 3600 x < M 3600 i := by rw [Int32.le_iff_toInt_le, Int32.lt_iff_toInt_lt]; omega
            by_cases e3 : S 414 i ≤ S 414 x
            · have e4 : M 3600 i ≤ M 3600 x := q6.mpr (fun q => q5.mp e3 (iff1.mpr q))
              simp only [if_pos e3, if_pos e4]
              refine ih (i + 1) (some x) M hM (fun x' hx' => ?_) (fun h => absurd h (by simp)) h6 (by omega) (by omega)
              rw [← Option.some.inj hx']
              refine ⟨hx, x1, x2, fun t q1 q2 q3 q4 => ?_⟩
              rcases Nat.eq_or_lt_of_le (Nat.le_of_lt_succ q1) with g | g
              · rw [g]; exact e3
              · exact x3 t g q2 q3 q4
            · have e4 : ¬ M 3600 i ≤ M 3600 x := fun q => e3 (q5.mpr (fun q' => q6.mp q (iff1.mp q')))
              simp only [if_neg e3, if_neg e4]
              refine take e1 e2 (fun x' hx' => ?_)
              rw [← Option.some.inj hx']
              rw [Int32.le_iff_toInt_le] at e3 ⊢; omega
        · have w : ¬ (sl P i = s ∧ S 406 i = 3) := fun q => e2 q.2
          simp only [if_neg e2, if_neg w, if_true]; exact skip w
      · have w : ¬ (sl P i = s ∧ S 406 i = 3) := fun q => e1 q.1
        simp only [if_neg e1, if_neg w, if_true]; exact skip w
    · have : i = nt := by omega
      subst this
      rw [if_pos (Int32.le_refl _), if_pos (Int32.le_refl _)]
      exact ⟨y, M, rfl, rfl, Scr.refl M, h6, fun x hx => by obtain ⟨a, b, c, d⟩ := hy x hx; exact ⟨a, b, c, fun t q => d t q q⟩, fun hr t q => hn hr t q q⟩
def Mv (S : TS) (P : TP) (s t : Nat) : Prop := sl P t = s ∧ S 406 t ≤ 4 ∧ ¬ S 406 t = 3
theorem fmv5 (hC : CI k ns nc nv nt tn ch S P N) {s : Nat} (hs : s < nv) (K : Option (Option Nat)) : ∀ (n i : Nat), i ≤ nt → nt < i + n → (∃ t, i ≤ t ∧ t < nt ∧ Mv S P s t ∧ (∀ u, i ≤ u → u < t → ¬ Mv S P s u) ∧ f5_firstToMoveOn_2 K S P s n (nI i) = some (some t)) ∨ ((∀ u, i ≤ u → u < nt → ¬ Mv S P s u) ∧ f5_firstToMoveOn_2 K S P s n (nI i) = K) := by
  have hb := hC.nt4
  intro n
  induction n with
  | zero => intro i a b; omega
  | succ n ih =>
    intro i a b
    rw [f5_firstToMoveOn_2, hC.c7]
    rcases Nat.lt_or_ge i nt with hi | hi
    · rw [if_neg (nI_ge hi (by omega)), ix_nI (by omega) (by decide)]
      simp only [Option.bind_some, lt, hC.t1 hi, hC.t4 hi, some_eq, nI_1]
      have skip : ¬ Mv S P s i → (∃ t, i ≤ t ∧ t < nt ∧ Mv S P s t ∧ (∀ u, i ≤ u → u < t → ¬ Mv S P s u) ∧ f5_firstToMoveOn_2 K S P s n (nI (i + 1)) = some (some t)) ∨ ((∀ u, i ≤ u → u < nt → ¬ Mv S P s u) ∧ f5_firstToMoveOn_2 K S P s n (nI (i + 1)) = K) := by
        intro hno
        rcases ih (i + 1) (by omega) (by omega) with ⟨t, h1, h2, h3, h4, h5⟩ | ⟨h1, h2⟩
        · refine Or.inl ⟨t, by omega, h2, h3, fun u q1 q2 => ?_, h5⟩
          rcases Nat.eq_or_lt_of_le q1 with g | g
          · rw [← g]; exact hno
          · exact h4 u g q2
        · refine Or.inr ⟨fun u q1 q2 => ?_, h2⟩
          rcases Nat.eq_or_lt_of_le q1 with g | g
          · rw [← g]; exact hno
          · exact h1 u g q2
      by_cases e1 : sl P i = s
      · simp only [if_pos e1]
        by_cases e2 : 4 < S 406 i
        · simp only [if_pos e2]
          refine skip (fun q => ?_)
          have := q.2.1
          rw [Int32.le_iff_toInt_le] at this
          rw [Int32.lt_iff_toInt_lt] at e2
          omega
        · simp only [if_neg e2]
          by_cases e3 : S 406 i = 3
          · simp only [if_pos e3]; exact skip (fun q => q.2.2 e3)
          · simp only [if_neg e3]
            refine Or.inl ⟨i, Nat.le_refl _, hi, ⟨e1, ?_, e3⟩, fun u q1 q2 => by omega, rfl⟩
            rw [Int32.lt_iff_toInt_lt] at e2
            rw [Int32.le_iff_toInt_le]; omega
      · simp only [if_neg e1]; exact skip (fun q => e1 q.1)
    · have : i = nt := by omega
      subst this
      rw [if_pos (Int32.le_refl _)]
      exact Or.inr ⟨fun u q1 q2 => by omega, rfl⟩
/-- the model walks down and keeps the last that it meets -/
theorem fmv6 (hC : CI k ns nc nv nt tn ch S P N) {s : Nat} (hs : s < nv) (K' : TS → Option (Int32 × TS)) : ∀ (n m : Nat) (M : TS), MI ns nc nv nt tn bn S P M → m < n → m ≤ nt → ∃ M', f6_recallTurn_73 K' (nI s) n M (yy m) = K' M' ∧ Scr M M' ∧ ((∃ t, t < m ∧ Mv S P s t ∧ (∀ u, u < t → ¬ Mv S P s u) ∧ M' 630 0 = nI t) ∨ ((∀ u, u < m → ¬ Mv S P s u) ∧ M' 630 0 = M 630 0)) := by
  have hb := hC.nt4
  have hv := hC.nv6
  intro n
  induction n with
  | zero => intro m M hM h1; omega
  | succ n ih =>
    intro m M hM h1 h2
    rw [f6_recallTurn_73]
    cases m with
    | zero =>
      rw [if_pos (show yy 0 < 0 by decide)]
      exact ⟨M, rfl, Scr.refl M, Or.inr ⟨fun u hu => by omega, rfl⟩⟩
    | succ m =>
      have hm : m < nt := by omega
      have hsl := hC.t5 hm
      rw [if_neg (show ¬ yy (m + 1) < 0 from nI_pos (by omega)), show yy (m + 1) = nI m from rfl, yy_dec, of0 hM hb hm, of4 hM hb hm]
      simp only [Option.bind_some, lt, show (nI (sl P m) = nI s) = (sl P m = s) from propext (nI_eq (by omega) (by omega))]
      have skip : ¬ Mv S P s m → ∃ M', f6_recallTurn_73 K' (nI s) n M (yy m) = K' M' ∧ Scr M M' ∧ ((∃ t, t < m + 1 ∧ Mv S P s t ∧ (∀ u, u < t → ¬ Mv S P s u) ∧ M' 630 0 = nI t) ∨ ((∀ u, u < m + 1 → ¬ Mv S P s u) ∧ M' 630 0 = M 630 0)) := by
        intro hno
        obtain ⟨M', a, b, c⟩ := ih m M hM (by omega) (by omega)
        refine ⟨M', a, b, ?_⟩
        rcases c with ⟨t, c1, c2⟩ | ⟨c1, c2⟩
        · exact Or.inl ⟨t, by omega, c2⟩
        · refine Or.inr ⟨fun u hu => ?_, c2⟩
          rcases Nat.eq_or_lt_of_le (Nat.le_of_lt_succ hu) with g | g
          · rw [g]; exact hno
          · exact c1 u g
      have take : Mv S P s m → ∃ M', f6_recallTurn_73 K' (nI s) n (up M 630 0 (nI m)) (yy m) = K' M' ∧ Scr M M' ∧ ((∃ t, t < m + 1 ∧ Mv S P s t ∧ (∀ u, u < t → ¬ Mv S P s u) ∧ M' 630 0 = nI t) ∨ ((∀ u, u < m + 1 → ¬ Mv S P s u) ∧ M' 630 0 = M 630 0)) := by
        intro hyes
        have hsc : Scr M (up M 630 0 (nI m)) := (Scr.refl M).up (by omega)
        obtain ⟨M', a, b, c⟩ := ih m (up M 630 0 (nI m)) (MI_scr hM hsc) (by omega) (by omega)
        refine ⟨M', a, hsc.trans b, Or.inl ?_⟩
        rcases c with ⟨t, c1, c2⟩ | ⟨c1, c2⟩
        · exact ⟨t, by omega, c2⟩
        · exact ⟨m, by omega, hyes, c1, by rw [c2, up_v]⟩
      by_cases e1 : sl P m = s
      · simp only [if_pos e1]
        obtain ⟨h, h7, eh⟩ := (hC.tick m hm).2.2.2.2.2.1
        have big : ∀ v : Int32, 4 < v → S 406 m = v → ¬ Mv S P s m := by
          intro v hv hv' q
          have := q.2.1
          rw [hv', Int32.le_iff_toInt_le] at this
          rw [Int32.lt_iff_toInt_lt] at hv
          omega
        match h, h7, eh with
        | 0, _, eh =>
          have eh : S 406 m = 0 := eh
          rw [if_pos eh]; exact take ⟨e1, by rw [eh]; decide, by rw [eh]; decide⟩
        | 1, _, eh =>
          have eh : S 406 m = 1 := eh
          rw [if_neg (by rw [eh]; decide), if_pos eh]; exact take ⟨e1, by rw [eh]; decide, by rw [eh]; decide⟩
        | 2, _, eh =>
          have eh : S 406 m = 2 := eh
          rw [if_neg (by rw [eh]; decide), if_neg (by rw [eh]; decide), if_pos eh]; exact take ⟨e1, by rw [eh]; decide, by rw [eh]; decide⟩
        | 3, _, eh =>
          have eh : S 406 m = 3 := eh
          rw [if_neg (by rw [eh]; decide), if_neg (by rw [eh]; decide), if_neg (by rw [eh]; decide), if_neg (by rw [eh]; decide)]; exact skip (fun q => q.2.2 eh)
        | 4, _, eh =>
          have eh : S 406 m = 4 := eh
          rw [if_neg (by rw [eh]; decide), if_neg (by rw [eh]; decide), if_neg (by rw [eh]; decide), if_pos eh]; exact take ⟨e1, by rw [eh]; decide, by rw [eh]; decide⟩
        | 5, _, eh =>
          have eh : S 406 m = 5 := eh
          rw [if_neg (by rw [eh]; decide), if_neg (by rw [eh]; decide), if_neg (by rw [eh]; decide), if_neg (by rw [eh]; decide)]; exact skip (big 5 (by decide) eh)
        | 6, _, eh =>
          have eh : S 406 m = 6 := eh
          rw [if_neg (by rw [eh]; decide), if_neg (by rw [eh]; decide), if_neg (by rw [eh]; decide), if_neg (by rw [eh]; decide)]; exact skip (big 6 (by decide) eh)
        | 7, _, eh =>
          have eh : S 406 m = 7 := eh
          rw [if_neg (by rw [eh]; decide), if_neg (by rw [eh]; decide), if_neg (by rw [eh]; decide), if_neg (by rw [eh]; decide)]; exact skip (big 7 (by decide) eh)
      · simp only [if_neg e1]; exact skip (fun q => e1 q.1)
theorem hb11 (hC : CI k ns nc nv nt tn ch S P N) {s : Nat} (hs : s < nv) (K : Option Int32) : ∀ (n i : Nat), i ≤ nt → nt < i + n → (∃ t, t < nt ∧ sl P t = s ∧ (S 406 t = 1 ∨ S 406 t = 2) ∧ f5_hasBoardingTurn_11 K S P s n (nI i) = some 1) ∨ ((∀ t, i ≤ t → t < nt → ¬ (sl P t = s ∧ (S 406 t = 1 ∨ S 406 t = 2))) ∧ f5_hasBoardingTurn_11 K S P s n (nI i) = K) := by
  have hb := hC.nt4
  intro n
  induction n with
  | zero => intro i a b; omega
  | succ n ih =>
    intro i a b
    rw [f5_hasBoardingTurn_11, hC.c7]
    rcases Nat.lt_or_ge i nt with hi | hi
    · rw [if_neg (nI_ge hi (by omega)), ix_nI (by omega) (by decide)]
      simp only [Option.bind_some, lt, hC.t1 hi, hC.t4 hi, some_eq, nI_1]
      have skip : ¬ (sl P i = s ∧ (S 406 i = 1 ∨ S 406 i = 2)) → (∃ t, t < nt ∧ sl P t = s ∧ (S 406 t = 1 ∨ S 406 t = 2) ∧ f5_hasBoardingTurn_11 K S P s n (nI (i + 1)) = some 1) ∨ ((∀ t, i ≤ t → t < nt → ¬ (sl P t = s ∧ (S 406 t = 1 ∨ S 406 t = 2))) ∧ f5_hasBoardingTurn_11 K S P s n (nI (i + 1)) = K) := by
        intro hno
        rcases ih (i + 1) (by omega) (by omega) with h | ⟨h1, h2⟩
        · exact Or.inl h
        · refine Or.inr ⟨fun u q1 q2 => ?_, h2⟩
          rcases Nat.eq_or_lt_of_le q1 with g | g
          · rw [← g]; exact hno
          · exact h1 u g q2
      by_cases e1 : sl P i = s
      · simp only [if_pos e1]
        by_cases e2 : S 406 i = 1
        · simp only [if_pos e2]; exact Or.inl ⟨i, hi, e1, Or.inl e2, by simp⟩
        · simp only [if_neg e2]
          by_cases e3 : S 406 i = 2
          · simp only [if_pos e3]; exact Or.inl ⟨i, hi, e1, Or.inr e3, by simp⟩
          · simp only [if_neg e3]; exact skip (fun q => q.2.elim e2 e3)
      · simp only [if_neg e1]; exact skip (fun q => e1 q.1)
    · have : i = nt := by omega
      subst this
      rw [if_pos (Int32.le_refl _)]
      exact Or.inr ⟨fun u q1 q2 => by omega, rfl⟩
end NEXT
