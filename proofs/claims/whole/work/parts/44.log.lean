/-! the log; the searches of a turn -/
section LOG
variable {k ns nc nv nt tn bn : Nat} {ch : Nat → Nat → List Nat} {S : TS} {P : TP} {N : TN} {M : TS}
theorem log_rel {S M S' M' : TS} {x y a b c d e f : Int32} {q : Nat} (h : MI_log S M) (hq : q < 3000) (e1 : ∀ i, S' 1100 i = if i = q then a else S 1100 i) (e2 : ∀ i, S' 1200 i = if i = q then b else S 1200 i) (e3 : ∀ i, S' 1300 i = if i = q then c else S 1300 i) (f1 : ∀ i, M' 3700 i = if i = q then a else M 3700 i) (f2 : ∀ i, M' 3800 i = if i = q then b else M 3800 i) (f3 : ∀ i, M' 3900 i = if i = q then c else M 3900 i) : MI_log S' M' := by
  intro i hi
  obtain ⟨g1, g2, g3⟩ := h i hi
  rw [e1, e2, e3, f1, f2, f3, g1, g2, g3]
  exact ⟨rfl, rfl, rfl⟩
theorem how_205 {s : Nat} {S M : TS} (h : MI_how nv S M) : MI_how nv (up S 205 s (S 205 s + 1)) (up M 3000 s (M 3000 s + 1)) := by
  intro s' hs'
  obtain ⟨a, b, c⟩ := h s' hs'
  refine ⟨a, ?_, c⟩
  rw [up_eq, up_eq]
  by_cases e : s' = s
  · subst e; rw [if_pos rfl, if_pos rfl, b]
  · rw [if_neg e, if_neg e, b]
theorem wlog (a : Int32) (hk : k < 600) {t s : Nat} (hC : CI k ns nc nv nt (tn + 1) ch (up S 511 0 (nI (tn + 1))) P N) (hM : MI ns nc nv nt (tn + 1) bn (up S 511 0 (nI (tn + 1))) P (up M 624 0 (nI (tn + 1)))) (h5 : S 511 0 = nI tn) (h6 : M 624 0 = nI tn) (ht : t < nt) (hs : s < nv) : ∃ S' M', f5_writeLog S P a t s = some (S', P) ∧ f6_write M a (nI t) (nI s) = some M' ∧ CI k ns nc nv nt (tn + 1) ch S' P N ∧ MI ns nc nv nt (tn + 1) bn S' P M' ∧ (∀ c i, c < 505 → c ≠ 205 → S' c i = S c i) ∧ (∀ c i, 624 < c → c < 3700 → c ≠ 3000 → M' c i = M c i) := by
  have htn : tn + 1 ≤ 500 * k := hC.turn.2
  have hv := hC.nv6
  have h400 : S 400 t = nI t := (hC.tick t ht).2.1
  have h200 : S 200 s = nI s := (hC.sail s hs).2.1
  unfold f5_writeLog f6_write
  simp only [lt]
  rw [h5, h6]
  rcases Nat.lt_or_ge tn 3000 with g | g
  · rw [if_neg (show ¬ (3000 : Int32) ≤ nI tn from nI_ge (b := 3000) g (by decide)), if_neg (show ¬ (3000 : Int32) ≤ nI tn from nI_ge (b := 3000) g (by decide)), ix_nI g (by decide)]
    simp only [Option.bind_some]
    rw [show up S 1100 tn a 511 0 = nI tn from h5, ix_nI g (by decide), Option.bind_some]
    rw [show up (up S 1100 tn a) 1200 tn (up S 1100 tn a 400 t) 511 0 = nI tn from h5, ix_nI g (by decide), Option.bind_some]
    rw [show up M 3700 tn a 624 0 = nI tn from h6, ix_nI g (by decide), Option.bind_some]
    rw [show up (up M 3700 tn a) 3800 tn (nI t) 624 0 = nI tn from h6, ix_nI g (by decide), Option.bind_some, ix_nI (show s < 60 by omega) (by decide), Option.bind_some, Option.bind_some]
    rw [show up S 1100 tn a 400 t = nI t from h400, show up (up S 1100 tn a) 1200 tn (nI t) 200 s = nI s from h200]
    refine ⟨_, _, rfl, rfl, ?_, ?_, ?_, ?_⟩
    · have e : up (up (up S 1100 tn a) 1200 tn (nI t)) 1300 tn (nI s) 511 0 + 1 = nI (tn + 1) := by
        show S 511 0 + 1 = _; rw [h5, nI_1]
      rw [e]
      exact hC
    · have e : up (up (up S 1100 tn a) 1200 tn (nI t)) 1300 tn (nI s) 511 0 + 1 = nI (tn + 1) := by
        show S 511 0 + 1 = _; rw [h5, nI_1]
      have e' : up (up (up M 3700 tn a) 3800 tn (nI t)) 3900 tn (nI s) 624 0 + 1 = nI (tn + 1) := by
        show M 624 0 + 1 = _; rw [h6, nI_1]
      rw [e, e']
      refine ⟨hM.cnt, hM.ship, hM.cab, hM.sail, how_205 hM.how, hM.off, hM.ramp, ?_, hM.turn, hM.brd, ?_, ?_⟩
      · intro t' q ht' hq
        refine (hM.tick t' q ht' hq).trans ?_
        match q, hq with
        | 0, _ => rfl
        | 1, _ => rfl
        | 2, _ => rfl
        | 3, _ => rfl
        | 4, _ => rfl
        | 5, _ => rfl
        | 6, _ => rfl
        | 7, _ => rfl
        | 8, _ => rfl
        | 9, _ => rfl
        | 10, _ => rfl
        | 11, _ => rfl
        | 12, _ => rfl
      · exact log_rel (x := 0) (y := 0) (d := 0) (e := 0) (f := 0) hM.log g (a := a) (b := nI t) (c := nI s) (fun i => show up S 1100 tn a 1100 i = if i = tn then a else S 1100 i from up_eq) (fun i => show up (up S 1100 tn a) 1200 tn (nI t) 1200 i = if i = tn then nI t else up S 1100 tn a 1200 i from up_eq) (fun i => show up (up (up S 1100 tn a) 1200 tn (nI t)) 1300 tn (nI s) 1300 i = if i = tn then nI s else up (up S 1100 tn a) 1200 tn (nI t) 1300 i from up_eq) (fun i => show up M 3700 tn a 3700 i = if i = tn then a else M 3700 i from up_eq) (fun i => show up (up M 3700 tn a) 3800 tn (nI t) 3800 i = if i = tn then nI t else up M 3700 tn a 3800 i from up_eq) (fun i => show up (up (up M 3700 tn a) 3800 tn (nI t)) 3900 tn (nI s) 3900 i = if i = tn then nI s else up (up M 3700 tn a) 3800 tn (nI t) 3900 i from up_eq)
      · intro s' hs'
        obtain ⟨x1, x2, x3, x4⟩ := hM.new s' hs'
        refine ⟨x1, ?_, x3, x4⟩
        rw [up_i (by omega)]; exact x2
    · intro c i hc hc2
      rw [up_c hc2, up_c (by omega), up_c (by omega), up_c (by omega), up_c (by omega)]
    · intro c i hc hc2 hc3
      rw [up_c hc3, up_c (by omega), up_c (by omega), up_c (by omega), up_c (by omega)]
  · rw [if_pos (show (3000 : Int32) ≤ nI tn from nI_le (a := 3000) g (by omega)), if_pos (show (3000 : Int32) ≤ nI tn from nI_le (a := 3000) g (by omega))]
    rw [ix_nI (show s < 60 by omega) (by decide), Option.bind_some, Option.bind_some, nI_1]
    refine ⟨_, _, rfl, rfl, hC, ?_, ?_, ?_⟩
    · refine ⟨hM.cnt, hM.ship, hM.cab, hM.sail, how_205 hM.how, hM.off, hM.ramp, ?_, hM.turn, hM.brd, hM.log, ?_⟩
      · intro t' q ht' hq
        refine (hM.tick t' q ht' hq).trans ?_
        match q, hq with
        | 0, _ => rfl
        | 1, _ => rfl
        | 2, _ => rfl
        | 3, _ => rfl
        | 4, _ => rfl
        | 5, _ => rfl
        | 6, _ => rfl
        | 7, _ => rfl
        | 8, _ => rfl
        | 9, _ => rfl
        | 10, _ => rfl
        | 11, _ => rfl
        | 12, _ => rfl
      · intro s' hs'
        obtain ⟨x1, x2, x3, x4⟩ := hM.new s' hs'
        refine ⟨x1, ?_, x3, x4⟩
        rw [up_i (by omega)]; exact x2
    · intro c i hc hc2
      rw [up_c hc2, up_c (by omega)]
    · intro c i hc hc2 hc3
      rw [up_c hc3, up_c (by omega)]
/-- the ticket that comes first among those that are here -/
theorem fh (hC : CI k ns nc nv nt tn ch S P N) {s : Nat} (hs : s < nv) (K : Option Nat → Option (Option Nat)) (K' : TS → Option (Int32 × TS)) : ∀ (n i : Nat) (y : Option Nat) (M : TS), MI ns nc nv nt tn bn S P M → (∀ x, y = some x → x < nt ∧ sl P x = s ∧ S 406 x = 1) → M 630 0 = oI y → i ≤ nt → nt < i + n → ∃ r M', f5_firstHere_4 K S P s n y (nI i) = K r ∧ f6_nextTurn_34 K' (nI s) n M (nI i) = K' M' ∧ Scr M M' ∧ M' 630 0 = oI r ∧ (∀ x, r = some x → x < nt ∧ sl P x = s ∧ S 406 x = 1) ∧ (r = none → y = none ∧ ∀ t, i ≤ t → t < nt → ¬ (sl P t = s ∧ S 406 t = 1)) := by
  have hb := hC.nt4
  have hv := hC.nv6
  intro n
  induction n with
  | zero => intro i y M hM hy h6 h1 h2; omega
  | succ n ih =>
    intro i y M hM hy h6 h1 h2
    rw [f5_firstHere_4, f6_nextTurn_34, hC.c7, hM.cnt.2.2.2]
    rcases Nat.lt_or_ge i nt with hi | hi
    · have hsl := hC.t5 hi
      rw [if_neg (nI_ge hi (by omega)), if_neg (nI_ge hi (by omega)), ix_nI (by omega) (by decide)]
      simp only [Option.bind_some, lt, hC.t1 hi, hC.t4 hi, some_eq, of0 hM hb hi, of4 hM hb hi, of5 hM hb hi, nI_1, show (nI (sl P i) = nI s) = (sl P i = s) from propext (nI_eq (by omega) (by omega))]
      have skip : (y = none → ¬ (sl P i = s ∧ S 406 i = 1)) → ∃ r M', f5_firstHere_4 K S P s n y (nI (i + 1)) = K r ∧ f6_nextTurn_34 K' (nI s) n M (nI (i + 1)) = K' M' ∧ Scr M M' ∧ M' 630 0 = oI r ∧ (∀ x, r = some x → x < nt ∧ sl P x = s ∧ S 406 x = 1) ∧ (r = none → y = none ∧ ∀ t, i ≤ t → t < nt → ¬ (sl P t = s ∧ S 406 t = 1)) := by
        intro hno
        obtain ⟨r, M', a, b, c, d, e, f⟩ := ih (i + 1) y M hM hy h6 (by omega) (by omega)
        refine ⟨r, M', a, b, c, d, e, fun hr => ⟨(f hr).1, fun t q1 q2 => ?_⟩⟩
        rcases Nat.eq_or_lt_of_le q1 with g | g
        · rw [← g]; exact hno (f hr).1
        · exact (f hr).2 t g q2
      have take : sl P i = s → S 406 i = 1 → ∃ r M', f5_firstHere_4 K S P s n (some i) (nI (i + 1)) = K r ∧ f6_nextTurn_34 K' (nI s) n (up M 630 0 (nI i)) (nI (i + 1)) = K' M' ∧ Scr M M' ∧ M' 630 0 = oI r ∧ (∀ x, r = some x → x < nt ∧ sl P x = s ∧ S 406 x = 1) ∧ (r = none → y = none ∧ ∀ t, i ≤ t → t < nt → ¬ (sl P t = s ∧ S 406 t = 1)) := by
        intro e1 e2
        have hsc : Scr M (up M 630 0 (nI i)) := (Scr.refl M).up (by omega)
        obtain ⟨r, M', a, b, c, d, e, f⟩ := ih (i + 1) (some i) (up M 630 0 (nI i)) (MI_scr hM hsc) (fun x hx => by rw [← Option.some.inj hx]; exact ⟨hi, e1, e2⟩) up_v (by omega) (by omega)
        exact ⟨r, M', a, b, hsc.trans c, d, e, fun hr => absurd (f hr).1 (by simp)⟩
      by_cases e1 : sl P i = s
      · simp only [if_pos e1]
        by_cases e2 : S 406 i = 1
        · simp only [if_pos e2]
          cases y with
          | none =>
            rw [h6, if_pos (show oI none = -1 from rfl)]
            exact take e1 e2
          | some x =>
            obtain ⟨hx, x1, x2⟩ := hy x rfl
            rw [h6, if_neg (show ¬ oI (some x) = -1 from nI_neg1 (by omega)), show f6_of M (oI (some x)) 5 = some (S 407 x) from of5 hM hb hx]
            simp only [Option.elim_some, Option.bind_some]
            by_cases e3 : S 407 x ≤ S 407 i
            · simp only [if_pos e3]; exact skip (fun q => absurd q (by simp))
            · simp only [if_neg e3]; exact take e1 e2
        · simp only [if_neg e2]; exact skip (fun _ q => e2 q.2)
      · simp only [if_neg e1]; exact skip (fun _ q => e1 q.1)
    · have : i = nt := by omega
      subst this
      rw [if_pos (Int32.le_refl _), if_pos (Int32.le_refl _)]
      exact ⟨y, M, rfl, rfl, Scr.refl M, h6, hy, fun hr => ⟨hr, fun t q1 q2 => by omega⟩⟩
end LOG
