/-! on from the ramp -/
section RAMP
variable {k ns nc nv nt tn bn : Nat} {ch : Nat → Nat → List Nat} {S : TS} {P : TP} {N : TN} {M : TS}
theorem b3_some {α β γ δ : Type} {a : α} {b : β} {c : γ} {f : α → β → γ → Option δ} : b3 (some (a, b, c)) f = f a b c := rfl
theorem c50 (hC : CI k ns nc nv nt tn ch S P N) (hM : MI ns nc nv nt tn bn S P M) {s : Nat} (hs : s < nv) (c1 c3 : Int32) (K : Int32 → Option Int32) : ∀ (n i : Nat), i ≤ nt → nt < i + n → (∃ t, t < nt ∧ sl P t = s ∧ S 406 t = 3 ∧ S 411 t = c3 ∧ f6_cabinFor_50 K M c1 (nI s) c3 n 1 (nI i) = K 0) ∨ ((∀ t, i ≤ t → t < nt → ¬ (sl P t = s ∧ S 406 t = 3 ∧ S 411 t = c3)) ∧ f6_cabinFor_50 K M c1 (nI s) c3 n 1 (nI i) = K 1) := by
  have hb := hC.nt4
  have hv := hC.nv6
  intro n
  induction n with
  | zero => intro i h1 h2; omega
  | succ n ih =>
    intro i h1 h2
    rw [f6_cabinFor_50, hM.cnt.2.2.2]
    rcases Nat.lt_or_ge i nt with hi | hi
    · rw [if_neg (nI_ge hi (by omega)), if_neg one_ne, isAb hM hb hv hi (hC.t5 hi) hs]
      simp only [Option.bind_some, lt, of9 hM hb hi, nI_1]
      have step : ¬ (sl P i = s ∧ S 406 i = 3 ∧ S 411 i = c3) → (∃ t, t < nt ∧ sl P t = s ∧ S 406 t = 3 ∧ S 411 t = c3 ∧ f6_cabinFor_50 K M c1 (nI s) c3 n 1 (nI (i + 1)) = K 0) ∨ ((∀ t, i ≤ t → t < nt → ¬ (sl P t = s ∧ S 406 t = 3 ∧ S 411 t = c3)) ∧ f6_cabinFor_50 K M c1 (nI s) c3 n 1 (nI (i + 1)) = K 1) := by
        intro hno
        rcases ih (i + 1) (by omega) (by omega) with g | ⟨g1, g2⟩
        · exact Or.inl g
        · refine Or.inr ⟨fun t q1 q2 => ?_, g2⟩
          rcases Nat.eq_or_lt_of_le q1 with e | e
          · rw [← e]; exact hno
          · exact g1 t e q2
      by_cases e1 : sl P i = s ∧ S 406 i = 3
      · simp only [if_pos e1, if_neg one_ne]
        by_cases e2 : S 411 i = c3
        · simp only [if_pos e2]
          refine Or.inl ⟨i, hi, e1.1, e1.2, e2, ?_⟩
          cases n with
          | zero => omega
          | succ n =>
            rw [f6_cabinFor_50]
            split
            · rfl
            · rw [if_pos rfl]
        · simp only [if_neg e2]; exact step (fun q => e2 q.2.2)
      · simp only [if_neg e1, if_true]; exact step (fun q => e1 ⟨q.1, q.2.1⟩)
    · have : i = nt := by omega
      subst this
      rw [if_pos (Int32.le_refl _)]
      exact Or.inr ⟨fun t q1 q2 => by omega, rfl⟩
theorem c50_0 (c1 c2 c3 : Int32) (K : Int32 → Option Int32) : f6_cabinFor_50 K M c1 c2 c3 FU 0 0 = K 0 := by
  show f6_cabinFor_50 K M c1 c2 c3 (5999 + 1) 0 0 = K 0
  rw [f6_cabinFor_50]
  split
  · rfl
  · rw [if_pos rfl]
/-- the first free cabin that is large enough, on both sides -/
theorem tcab (hC : CI k ns nc nv nt tn ch S P N) (hM : MI ns nc nv nt tn bn S P M) {s t : Nat} (hs : s < nv) (h1 : S 204 s = 1) (ht : t < nt) {S5 : TS} (x1 : S5 503 0 = S 503 0) (x2 : ∀ c, S5 102 c = S 102 c) (x3 : ∀ c, S5 101 c = S 101 c) (K : TS → TP → Option (Int32 × TS × TP)) (K' : Option Int32) : ∀ (n i : Nat), i ≤ nc → nc < i + n → (∃ c, c < nc ∧ cs P c = vs P s ∧ S 102 c = 0 ∧ f5_takeFreeCabin_2 K (vs P s) (S 404 t) n S5 P (nI i) = some (nI c, up S5 102 c 1, P) ∧ f6_cabinFor_2 K' M (nI t) (nI s) n (nI i) = some (nI c)) ∨ (f5_takeFreeCabin_2 K (vs P s) (S 404 t) n S5 P (nI i) = K S5 P ∧ f6_cabinFor_2 K' M (nI t) (nI s) n (nI i) = K') := by
  have hb := hC.nt4
  have hv := hC.nv6
  have hn := hC.nc1
  have hns := hC.ns1
  have hvs := hC.s3 hs
  intro n
  induction n with
  | zero => intro i h1 h2; omega
  | succ n ih =>
    intro i a b
    rw [f5_takeFreeCabin_2, f6_cabinFor_2, x1, hC.c3, hM.cnt.2.1]
    rcases Nat.lt_or_ge i nc with hi | hi
    · have hcs := (hC.cab i hi).2.2.1
      have h01 := (hC.cab i hi).2.2.2
      rw [if_neg (nI_ge hi (by omega)), if_neg (nI_ge hi (by omega)), ix_nI (show i < 120 by omega) (by decide), ix_nI (show s < 60 by omega) (by decide)]
      simp only [Option.bind_some, lt, hC.b8 hi, hC.b1 hi, some_eq, x2, x3, (hM.cab i hi).1, (hM.cab i hi).2, (hM.sail s hs).1, of3 hM hb ht, nI_1, show (nI (cs P i) = nI (vs P s)) = (cs P i = vs P s) from propext (nI_eq (by omega) (by omega))]
      have next := ih (i + 1) (by omega) (by omega)
      by_cases e1 : cs P i = vs P s
      · simp only [if_pos e1]
        by_cases e3 : S 101 i < S 404 t
        · simp only [if_pos e3, c50_0, if_true]
          by_cases e2 : S 102 i = 0
          · simp only [if_pos e2]; exact next
          · simp only [if_neg e2]; exact next
        · simp only [if_neg e3]
          have hf := c50 hC hM hs (nI t) (nI i) (fun w9 => if w9 = 0 then f6_cabinFor_2 K' M (nI t) (nI s) n (nI (i + 1)) else some (nI i)) FU 0 (by omega) (by rw [FU_eq]; omega)
          have hst : ∀ u, u < nt → S 406 u = 3 → S 411 u = nI i → sl P u = s := by
            intro u hu h3 h4
            rcases hC.cb u hu h3 with q | ⟨c, q1, q2, q3⟩
            · rw [q] at h4; exact absurd h4.symm (nI_neg1 (by omega))
            · rw [q2] at h4
              have : c = i := nI_inj (by omega) (by omega) h4
              rw [this, e1] at q3
              exact hC.one _ _ (hC.t5 hu) hs (hC.ab u hu h3) h1 q3.symm
          by_cases e2 : S 102 i = 0
          · simp only [if_pos e2]
            rcases hf with ⟨u, f1, f2, f3, f4, -⟩ | ⟨-, f⟩
            · have := (hC.tk i hi).mpr ⟨u, f1, f3, f4⟩
              rw [e2] at this; exact absurd this.symm one_ne
            · have f : f6_cabinFor_50 (fun w9 => if w9 = 0 then f6_cabinFor_2 K' M (nI t) (nI s) n (nI (i + 1)) else some (nI i)) M (nI t) (nI s) (nI i) FU 1 0 = _ := f
              rw [f, if_neg one_ne]
              exact Or.inl ⟨i, hi, e1, e2, rfl, rfl⟩
          · simp only [if_neg e2]
            rcases hf with ⟨u, f1, f2, f3, f4, f⟩ | ⟨f, -⟩
            · have f : f6_cabinFor_50 (fun w9 => if w9 = 0 then f6_cabinFor_2 K' M (nI t) (nI s) n (nI (i + 1)) else some (nI i)) M (nI t) (nI s) (nI i) FU 1 0 = _ := f
              rw [f, if_pos rfl]; exact next
            · obtain ⟨u, f1, f2, f3⟩ := (hC.tk i hi).mp (h01.resolve_left e2)
              exact absurd ⟨hst u f1 f2 f3, f2, f3⟩ (f u (Nat.zero_le _) f1)
      · simp only [if_neg e1, c50_0, if_true]; exact next
    · have : i = nc := by omega
      subst this
      rw [if_pos (Int32.le_refl _), if_pos (Int32.le_refl _)]
      exact Or.inr ⟨rfl, rfl⟩
theorem MI_cabin (hM : MI ns nc nv nt tn bn S P M) {s t z : Nat} {v u : Int32} : MI ns nc nv nt tn bn (up (up (up S 208 s 0) 102 z v) 411 t u) P (up (up M 3500 (13 * t + 9) u) 3300 s 1) ∨ ¬ s < nv := by
  by_cases hs : s < nv
  · left
    refine ⟨hM.cnt, hM.ship, hM.cab, hM.sail, hM.how, hM.off, ?_, ?_, hM.turn, hM.brd, hM.log, ?_⟩
    · intro s' hs'
      obtain ⟨a, b⟩ := hM.ramp s' hs'
      refine ⟨a, fun hp => ?_⟩
      show up M 3300 s 1 3300 s' = if up S 208 s 0 208 s' = 0 then 1 else 0
      by_cases e : s' = s
      · rw [e, up_v, up_v, if_pos rfl]
      · rw [up_i e, up_i e]; exact b hp
    · have := tick_up (S' := up (up (up S 208 s 0) 102 z v) 411 t u) (P' := P) hM.tick (t := t) (q := 9) (v := u) (by decide) (fun t' q' hq => by
        rw [tS_u411 t' q' hq]
        by_cases w : t' = t ∧ q' = 9
        · rw [if_pos w, if_pos w]
        · rw [if_neg w, if_neg w]
          match q', hq with
          | 0, _ => rfl
          | 1, _ => rfl
          | 2, _ => rfl
          | 3, _ => rfl
          | 4, _ => rfl
          | 5, _ => rfl
          | 6, _ => rfl
          | 7, _ => rfl
          | 8, _ => rfl
          | 9, _ => rfl
          | 10, _ => rfl
          | 11, _ => rfl
          | 12, _ => rfl)
      exact this
    · intro s' hs'
      obtain ⟨a, b, c, d⟩ := hM.new s' hs'
      refine ⟨a, b, ?_, d⟩
      show up M 3300 s 1 3300 s' = 0
      rw [up_i (by omega)]; exact c
  · exact Or.inr hs
theorem rex_same {s : Nat} {S' : TS} {P' : TP} (hR : Rex nv nt s S P) (h1 : ∀ s', S' 204 s' = S 204 s') (h2 : ∀ s', S' 206 s' = S 206 s') (h3 : ∀ t, S' 406 t = S 406 t) (h4 : P' 401 = P 401) : Rex nv nt s S' P' := by
  intro s' hs' e q1 q2
  rw [h1] at q1
  rw [h2] at q2
  obtain ⟨t, a, b, c⟩ := hR s' hs' e q1 q2
  exact ⟨t, a, by unfold sl; rw [h4]; exact b, by rw [h3]; exact c⟩
theorem actRamp (hk : k < 600) {t s : Nat} (hC : CI k ns nc nv nt tn ch S P N) (hM : MI ns nc nv nt tn bn S P M) (hn : tn + 1 ≤ 500 * k) (hR : Rex nv nt s S P) (hs : s < nv) (hp : P 207 s 0 = some t) : Act k ns nc nv nt tn s N S (f5_goOnAfterRamp S P s t) (f6_goesOn M (nI t) (nI s)) := by
  have hb := hC.nt4
  have hv := hC.nv6
  have hn1 := hC.nc1
  obtain ⟨ht, h3, e1, h1, h208⟩ := hC.ramp s t hs hp
  obtain ⟨m1, m2⟩ := hM.ramp s hs
  have m2 := m2 (by rw [hp]; simp)
  unfold f5_goOnAfterRamp f6_goesOn
  rw [ix_nI (show s < 60 by omega) (by decide)]
  simp only [Option.bind_some, lt]
  by_cases g : S 208 s = 0
  · rw [if_pos g] at m2
    rw [if_pos g, if_pos m2]
    have hC' : CI k ns nc nv nt tn ch S (up3 P 207 s 0 none) N := by
      refine ⟨hC.cnt, hC.ship, hC.cab, hC.cabn, hC.sail, ?_, hC.one, ?_, hC.tick, hC.ab, hC.cb, hC.tk, hC.uq, hC.std, hC.turn, hC.brd, hC.lnk, hC.mem, hC.dl, hC.ctg⟩
      · intro s' hs'
        obtain ⟨a, b, c, d⟩ := hC.how s' hs'
        refine ⟨a, b, c, fun q => ?_⟩
        rw [up3_eq]; split
        · rfl
        · exact d q
      · intro s' t' hs' hp'
        rw [up3_eq] at hp'
        by_cases e : s' = s
        · rw [if_pos e] at hp'; exact absurd hp' (by simp)
        · rw [if_neg e] at hp'; exact hC.ramp s' t' hs' hp'
    have hM' : MI ns nc nv nt tn bn S (up3 P 207 s 0 none) (up M 3200 s (-1)) := by
      refine ⟨hM.cnt, hM.ship, hM.cab, hM.sail, hM.how, hM.off, ?_, ?_, hM.turn, hM.brd, hM.log, hM.new⟩
      · intro s' hs'
        obtain ⟨a, b⟩ := hM.ramp s' hs'
        by_cases e : s' = s
        · rw [e, up3_v, up_v]; exact ⟨rfl, fun q => absurd rfl q⟩
        · rw [up3_i e, up_i e]; exact ⟨a, b⟩
      · intro t' q ht' hq
        refine (hM.tick t' q ht' hq).trans ?_
        match q, hq with
        | 0, _ => rfl
        | 1, _ => rfl
        | 2, _ => rfl
        | 3, _ => rfl
        | 4, _ => rfl
        | 5, _ => rfl
        | 6, _ => rfl
        | 7, _ => rfl
        | 8, _ => rfl
        | 9, _ => rfl
        | 10, _ => rfl
        | 11, _ => rfl
        | 12, _ => rfl
    obtain ⟨S', M', f1, f2, f3, f4, f5⟩ := wlog1 5 hk hC' hM' hn ht hs
    refine ⟨bn, ch, S', _, M', ?_, ?_, f3, f4, rex_log (S := S) (rex_same hR (fun _ => rfl) (fun _ => rfl) (fun _ => rfl) rfl) f5, f5 204 s (by decide) (by decide), f5 206 s (by decide) (by decide)⟩
    · rw [f1]; rfl
    · rw [f2]; rfl
  · rw [if_neg g] at m2
    obtain ⟨h81, h9⟩ := h208.resolve_left g
    rw [if_neg g, if_neg (show ¬ M 3300 s = 1 by rw [m2]; decide), hC.s2 hs, Option.bind_some]
    -- whatever cabin is found
    have fin : ∀ (z : Nat) (v u : Int32), CI k ns nc nv nt tn ch (up (up (up S 208 s 0) 102 z v) 411 t u) P N → f5_takeFreeCabin (up S 208 s 0) P (vs P s) (up S 208 s 0 404 t) = some (u, up (up S 208 s 0) 102 z v, P) → f6_cabinFor M (nI t) (nI s) = some u → Act k ns nc nv nt tn s N S (b3 (f5_takeFreeCabin (up S 208 s 0) P (vs P s) (up S 208 s 0 404 t)) fun (v8) (S9 : TS) (P10 : TP) => b2 (f5_writeLog (up S9 411 t v8) P10 (if up S9 411 t v8 411 t = -1 then 4 else 3) t s) fun (S14 : TS) (P15 : TP) => some (S14, P15)) ((f6_cabinFor M (nI t) (nI s)).bind fun (v2) => (f6_put M (nI t) (9) v2).bind fun (M4 : TS) => (f6_write (up M4 3300 s (1)) (if v2 = -1 then 4 else 3) (nI t) (nI s)).bind fun (M9 : TS) => some M9) := by
      intro z v u hC' h5 h6
      rw [h5, h6, Option.bind_some, put9 (by omega), Option.bind_some]
      have hM' := (MI_cabin hM (s := s) (t := t) (z := z) (v := v) (u := u)).resolve_right (fun q => q hs)
      obtain ⟨S', M', f1, f2, f3, f4, f5⟩ := wlog1 (if u = -1 then 4 else 3) hk hC' hM' hn ht hs
      refine ⟨bn, ch, S', P, M', ?_, ?_, f3, f4, rex_log (S := up (up (up S 208 s 0) 102 z v) 411 t u) (rex_same hR (fun _ => rfl) (fun _ => rfl) (fun _ => rfl) rfl) f5, ?_, ?_⟩
      · rw [b3_some, up_v, f1]; rfl
      · rw [f2]; rfl
      · rw [f5 204 s (by decide) (by decide)]; rfl
      · rw [f5 206 s (by decide) (by decide)]; rfl
    have ramp' : ∀ (z : Nat) (v u : Int32), CI_ramp nv nt (up (up (up S 208 s 0) 102 z v) 411 t u) P := by
      intro z v u s' t' hs' hp'
      obtain ⟨a, b, c, d, e⟩ := hC.ramp s' t' hs' hp'
      refine ⟨a, b, c, d, ?_⟩
      show up S 208 s 0 208 s' = 0 ∨ up S 208 s 0 208 s' = 1 ∧ up S 411 t u 411 t' = -1
      by_cases w : s' = s
      · rw [w, up_v]; exact Or.inl rfl
      · rw [up_i w]
        have w' : t' ≠ t := fun q => w (by rw [← c, q, e1])
        rw [up_i w']; exact e
    rcases tcab hC hM hs h1 ht (S5 := up S 208 s 0) rfl (fun _ => rfl) (fun _ => rfl) (fun (S6 : TS) (P7 : TP) => some ((-1), S6, P7)) (some (-1)) FU 0 (by omega) (by rw [FU_eq]; omega) with ⟨c, c1, c2, c3, c4, c5⟩ | ⟨c4, c5⟩
    · refine fin c 1 (nI c) ?_ c4 c5
      have hno : ∀ u, u < nt → S 406 u = 3 → ¬ S 411 u = nI c := by
        intro u hu h h'
        have := (hC.tk c c1).mpr ⟨u, hu, h, h'⟩
        rw [c3] at this; exact absurd this.symm one_ne
      refine ⟨hC.cnt, hC.ship, ?_, hC.cabn, hC.sail, hC.how, hC.one, ramp' _ _ _, ?_, hC.ab, ?_, ?_, ?_, hC.std, hC.turn, hC.brd, hC.lnk, hC.mem, hC.dl, hC.ctg⟩
      · intro c' hc'
        obtain ⟨a, b, d, e⟩ := hC.cab c' hc'
        refine ⟨a, b, d, ?_⟩
        show up S 102 c 1 102 c' = 0 ∨ up S 102 c 1 102 c' = 1
        rw [up_eq]; split
        · exact Or.inr rfl
        · exact e
      · intro t' ht'
        obtain ⟨a, b, d, e, f, g, g'⟩ := hC.tick t' ht'
        refine ⟨a, b, d, e, f, g, ?_⟩
        show ¬ S 406 t' = 3 → ¬ S 406 t' = 6 → up S 411 t (nI c) 411 t' = -1
        by_cases w : t' = t
        · rw [w]; exact fun q => absurd h3 q
        · rw [up_i w]; exact g'
      · intro t' ht' h
        show up S 411 t (nI c) 411 t' = -1 ∨ ∃ c', c' < nc ∧ up S 411 t (nI c) 411 t' = nI c' ∧ cs P c' = st P t'
        by_cases w : t' = t
        · rw [w, up_v]; exact Or.inr ⟨c, c1, rfl, by rw [c2]; unfold st; rw [e1]⟩
        · rw [up_i w]; exact hC.cb t' ht' h
      · intro c' hc'
        show up S 102 c 1 102 c' = 1 ↔ ∃ t', t' < nt ∧ S 406 t' = 3 ∧ up S 411 t (nI c) 411 t' = nI c'
        by_cases w : c' = c
        · rw [w, up_v]
          exact ⟨fun _ => ⟨t, ht, h3, up_v⟩, fun _ => rfl⟩
        · rw [up_i w, hC.tk c' hc']
          constructor
          · rintro ⟨t', a, b, d⟩
            have w' : t' ≠ t := fun q => by rw [q, h9] at d; exact nI_neg1 (by omega) d.symm
            exact ⟨t', a, b, by rw [up_i w']; exact d⟩
          · rintro ⟨t', a, b, d⟩
            by_cases w' : t' = t
            · rw [w', up_v] at d; exact absurd (nI_inj (by omega) (by omega) d).symm w
            · rw [up_i w'] at d; exact ⟨t', a, b, d⟩
      · intro t1 t2 q1 q2 q3 q4
        show up S 411 t (nI c) 411 t1 = up S 411 t (nI c) 411 t2 → ¬ up S 411 t (nI c) 411 t1 = -1 → t1 = t2
        by_cases w1 : t1 = t
        · by_cases w2 : t2 = t
          · intro _ _; rw [w1, w2]
          · rw [w1, up_v, up_i w2]
            intro q _; exact absurd q.symm (hno t2 q2 q4)
        · by_cases w2 : t2 = t
          · rw [w2, up_v, up_i w1]
            intro q _; exact absurd q (hno t1 q1 q3)
          · rw [up_i w1, up_i w2]; exact hC.uq t1 t2 q1 q2 q3 q4
    · have c4' : f5_takeFreeCabin (up S 208 s 0) P (vs P s) (up S 208 s 0 404 t) = some (-1, up (up S 208 s 0) 102 0 (S 102 0), P) := by
        rw [show up (up S 208 s 0) 102 0 (S 102 0) = up S 208 s 0 from up_id (S := up S 208 s 0)]; exact c4
      refine fin 0 (S 102 0) (-1) ?_ c4' c5
      rw [show up (up S 208 s 0) 102 0 (S 102 0) = up S 208 s 0 from up_id (S := up S 208 s 0), show up (up S 208 s 0) 411 t (-1) = up S 208 s 0 by rw [show (-1 : Int32) = up S 208 s 0 411 t from h9.symm, up_id]]
      have := ramp' 0 (S 102 0) (-1)
      rw [show up (up S 208 s 0) 102 0 (S 102 0) = up S 208 s 0 from up_id (S := up S 208 s 0), show up (up S 208 s 0) 411 t (-1) = up S 208 s 0 by rw [show (-1 : Int32) = up S 208 s 0 411 t from h9.symm, up_id]] at this
      exact ⟨hC.cnt, hC.ship, hC.cab, hC.cabn, hC.sail, hC.how, hC.one, this, hC.tick, hC.ab, hC.cb, hC.tk, hC.uq, hC.std, hC.turn, hC.brd, hC.lnk, hC.mem, hC.dl, hC.ctg⟩
end RAMP
