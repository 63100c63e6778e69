/-! depart: the whole of it -/
section DEPARTB
variable {k ns nc nv nt tn bn : Nat} {ch : Nat → Nat → List Nat} {S : TS} {P : TP} {N : TN} {M : TS}
/-- one ticket that ends without being aboard -/
theorem depEnd {s h t : Nat} (hs : s < nv) (ht : t < nt) (hD : DI k ns nc nv nt tn bn s h t ch S P N M) (e : sl P t = s) (h3 : ¬ S 406 t = 3) {v : Int32} (hv3 : ¬ v = 3) {q : Nat} (hq : q ≤ 7) (hv : v = nI q) (h12v : ¬ (v = 1 ∨ v = 2)) (h6 : ¬ S 406 t = 6) (b : Int32) : DI k ns nc nv nt tn bn s h (t + 1) ch (up (up S 406 t v) 412 t b) P N (up (up M 3500 (13 * t + 4) v) 3500 (13 * t + 11) b) := by
  obtain ⟨hC, hM, hO, hH, h1, hp, hvs, hdn, hR, h12⟩ := hD
  have hC' : C19 k ns nc nv nt tn ch (up (up S 406 t v) 412 t b) P N := C19_howt hC h3 hv3 ⟨q, hq, hv⟩ h6
  refine ⟨hC', ?_, hO, hH, h1, hp, hvs, ?_, ?_, ?_⟩
  · have := MI_f412 (MI_howt hM (t := t) (v := v) h3 hv3) (t := t) (v := b)
    rw [up_comm (c := 204) (c' := 406) (by decide), up_comm (c := 204) (c' := 412) (by decide)] at this
    exact this
  · intro t' h1' h2' h3'
    show ¬ up S 406 t v 406 t' = 3
    by_cases w : t' = t
    · rw [w, up_v]; exact hv3
    · rw [up_i w]; exact hdn t' (by omega) h2' h3'
  · intro s' hs' hne w1 w2
    obtain ⟨t', y1, y2, y3⟩ := hR s' hs' hne w1 w2
    refine ⟨t', y1, y2, ?_⟩
    have w : t' ≠ t := fun w => hne (by rw [← y2, w, e])
    show up S 406 t v 406 t' ≤ 4
    rw [up_i w]; exact y3
  · intro t' h1' h2'
    show ¬ (up S 406 t v 406 t' = 1 ∨ up S 406 t v 406 t' = 2)
    by_cases w : t' = t
    · rw [w, up_v]; exact h12v
    · rw [up_i w]; exact h12 t' h1' h2'
theorem DI_skip {s h t : Nat} (hD : DI k ns nc nv nt tn bn s h t ch S P N M) (hno : sl P t = s → ¬ S 406 t = 3) : DI k ns nc nv nt tn bn s h (t + 1) ch S P N M := by
  obtain ⟨hC, hM, hO, hH, h1, hp, hvs, hdn, hR, h12⟩ := hD
  refine ⟨hC, hM, hO, hH, h1, hp, hvs, ?_, hR, h12⟩
  intro t' h1' h2' h3'
  rcases Nat.eq_or_lt_of_le (Nat.le_of_lt_succ h1') with w | w
  · rw [w] at h3' ⊢; exact hno h3'
  · exact hdn t' w h2' h3'
theorem dep49 {s h : Nat} (hs : s < nv) (K : TS → TP → Int32 → Option (Int32 × TS × TP)) (K' : TS → Int32 → Option (Int32 × TS)) : ∀ (n i : Nat) (y : Int32) (ch : Nat → Nat → List Nat) (S : TS) (P : TP) (M : TS), DI k ns nc nv nt tn bn s h i ch S P N M → i ≤ nt → nt < i + n → ∃ r ch' S' P' M', f5_depart_41 K s n S P y (nI i) = K S' P' r ∧ f6_depart_49 K' (nI s) n M y (nI i) = K' M' r ∧ DI k ns nc nv nt tn bn s h nt ch' S' P' N M' := by
  intro n
  induction n with
  | zero => intro i y ch S P M hD h1 h2; omega
  | succ n ih =>
    intro i y ch S P M hD h1 h2
    have hC := hD.1
    have hM := hD.2.1
    have hb := hC.cnt.2.1.2.2.2
    have hv := hC.cnt.2.1.2.2.1
    have c7 : S 507 0 = nI nt := hC.cnt.1.2.2.2
    rw [f5_depart_41, f6_depart_49, c7, hM.cnt.2.2.2]
    rcases Nat.lt_or_ge i nt with hi | hi
    · have hsl := (hC.tick i hi).2.2.2.1
      have t1 : P 1000 0 i = some i := (hC.tick i hi).1
      have t4 : P 401 i 0 = some (sl P i) := (hC.tick i hi).2.2.1
      rw [if_neg (nI_ge hi (by omega)), if_neg (nI_ge hi (by omega)), ix_nI (by omega) (by decide)]
      simp only [Option.bind_some, lt, t1, t4, some_eq, of0 hM hb hi, show f6_of M (nI i) 4 = some (S 406 i) from of4 hM hb hi, nI_1, show (nI (sl P i) = nI s) = (sl P i = s) from propext (nI_eq (by omega) (by omega))]
      by_cases e : sl P i = s
      · simp only [if_pos e]
        have skip : ¬ S 406 i = 3 → ¬ S 406 i = 4 → ¬ S 406 i = 0 → ∃ r ch' S' P' M', (b2 (f5_endTicket S P i) fun S11 P12 => f5_depart_41 K s n S11 P12 (y + (if S 406 i = 3 then 1 else 0)) (nI (i + 1))) = K S' P' r ∧ f6_depart_49 K' (nI s) n M y (nI (i + 1)) = K' M' r ∧ DI k ns nc nv nt tn bn s h nt ch' S' P' N M' := by
          intro n3 n4 n0
          have : f5_endTicket S P i = some (S, P) := by unfold f5_endTicket; rw [if_neg n3, if_neg n4, if_neg n0]
          rw [this, b2_some, if_neg n3, Int32.add_zero]
          exact ih (i + 1) y ch S P M (DI_skip hD (fun _ => n3)) (by omega) (by omega)
        obtain ⟨q, hq, eq⟩ := (hC.tick i hi).2.2.2.2.2.1
        match q, hq, eq with
        | 0, _, eq =>
          have eq : S 406 i = 0 := eq
          have n3 : ¬ S 406 i = 3 := by rw [eq]; decide
          have n4 : ¬ S 406 i = 4 := by rw [eq]; decide
          have hend : f5_endTicket S P i = some (up (up S 406 i 7) 412 i (S 405 i / 2), P) := by
            unfold f5_endTicket; rw [if_neg n3, if_neg n4, if_pos eq]; rfl
          rw [hend, b2_some, if_neg n3, Int32.add_zero, if_pos eq, put4 (by omega)]
          have ho : f6_of (up M 3500 (13 * i + 4) 7) (nI i) 10 = some (S 405 i) := by
            rw [ofa10 (by omega), up_i (by omega)]; exact congrArg some (hM.tick i 10 hi (by decide))
          simp only [Option.bind_some, ho, put11 (show i < 400 by omega)]
          exact ih (i + 1) y ch _ P _ (depEnd hs hi hD e n3 (by decide) (q := 7) (by decide) rfl (by decide) (by rw [eq]; decide) _) (by omega) (by omega)
        | 1, _, eq => exact absurd (Or.inl eq) (hD.2.2.2.2.2.2.2.2.2 i hi e)
        | 2, _, eq => exact absurd (Or.inr eq) (hD.2.2.2.2.2.2.2.2.2 i hi e)
        | 3, _, eq =>
          have eq : S 406 i = 3 := eq
          obtain ⟨ch', S', P', M', g1, g2, g3⟩ := depAb hs hi hD e eq
          rw [g1, b2_some, if_pos eq]
          rw [if_neg (show ¬ S 406 i = 0 by rw [eq]; decide), if_neg (show ¬ S 406 i = 1 by rw [eq]; decide), if_neg (show ¬ S 406 i = 2 by rw [eq]; decide), if_pos eq]
          have e6 : ((f6_of M (nI i) 9).bind fun v20 => (f6_comesOff M (nI i)).bind fun M22 => (f6_put M22 (nI i) 9 v20).bind fun M24 => (f6_put M24 (nI i) 4 6).bind fun M26 => f6_depart_49 K' (nI s) n M26 (y + 1) (nI (i + 1))) = f6_depart_49 K' (nI s) n M' (y + 1) (nI (i + 1)) := by
            have : ∀ F : TS → Option (Int32 × TS), ((f6_of M (nI i) 9).bind fun v20 => (f6_comesOff M (nI i)).bind fun M22 => (f6_put M22 (nI i) 9 v20).bind fun M24 => (f6_put M24 (nI i) 4 6).bind F) = (((f6_of M (nI i) 9).bind fun v20 => (f6_comesOff M (nI i)).bind fun M22 => (f6_put M22 (nI i) 9 v20).bind fun M24 => f6_put M24 (nI i) 4 6).bind F) := by
              intro F; simp only [Option.bind_assoc]
            rw [this, g2]; rfl
          rw [e6]
          exact ih (i + 1) (y + 1) ch' S' P' M' g3 (by omega) (by omega)
        | 4, _, eq =>
          have eq : S 406 i = 4 := eq
          have n3 : ¬ S 406 i = 3 := by rw [eq]; decide
          have hend : f5_endTicket S P i = some (up (up S 406 i 5) 412 i (S 405 i), P) := by
            unfold f5_endTicket; rw [if_neg n3, if_pos eq]; rfl
          rw [hend, b2_some, if_neg n3, Int32.add_zero, if_neg (show ¬ S 406 i = 0 by rw [eq]; decide), if_neg (show ¬ S 406 i = 1 by rw [eq]; decide), if_neg (show ¬ S 406 i = 2 by rw [eq]; decide), if_neg n3, if_pos eq, put4 (by omega)]
          have ho : f6_of (up M 3500 (13 * i + 4) 5) (nI i) 10 = some (S 405 i) := by
            rw [ofa10 (by omega), up_i (by omega)]; exact congrArg some (hM.tick i 10 hi (by decide))
          simp only [Option.bind_some, ho, put11 (show i < 400 by omega)]
          exact ih (i + 1) y ch _ P _ (depEnd hs hi hD e n3 (by decide) (q := 5) (by decide) rfl (by decide) (by rw [eq]; decide) _) (by omega) (by omega)
        | 5, _, eq =>
          have eq : S 406 i = 5 := eq
          have := skip (by rw [eq]; decide) (by rw [eq]; decide) (by rw [eq]; decide)
          rw [if_neg (show ¬ S 406 i = 0 by rw [eq]; decide), if_neg (show ¬ S 406 i = 1 by rw [eq]; decide), if_neg (show ¬ S 406 i = 2 by rw [eq]; decide), if_neg (show ¬ S 406 i = 3 by rw [eq]; decide), if_neg (show ¬ S 406 i = 3 by rw [eq]; decide), if_neg (show ¬ S 406 i = 4 by rw [eq]; decide)]
          rw [if_neg (show ¬ S 406 i = 3 by rw [eq]; decide)] at this
          exact this
        | 6, _, eq =>
          have eq : S 406 i = 6 := eq
          have := skip (by rw [eq]; decide) (by rw [eq]; decide) (by rw [eq]; decide)
          rw [if_neg (show ¬ S 406 i = 0 by rw [eq]; decide), if_neg (show ¬ S 406 i = 1 by rw [eq]; decide), if_neg (show ¬ S 406 i = 2 by rw [eq]; decide), if_neg (show ¬ S 406 i = 3 by rw [eq]; decide), if_neg (show ¬ S 406 i = 3 by rw [eq]; decide), if_neg (show ¬ S 406 i = 4 by rw [eq]; decide)]
          rw [if_neg (show ¬ S 406 i = 3 by rw [eq]; decide)] at this
          exact this
        | 7, _, eq =>
          have eq : S 406 i = 7 := eq
          have := skip (by rw [eq]; decide) (by rw [eq]; decide) (by rw [eq]; decide)
          rw [if_neg (show ¬ S 406 i = 0 by rw [eq]; decide), if_neg (show ¬ S 406 i = 1 by rw [eq]; decide), if_neg (show ¬ S 406 i = 2 by rw [eq]; decide), if_neg (show ¬ S 406 i = 3 by rw [eq]; decide), if_neg (show ¬ S 406 i = 3 by rw [eq]; decide), if_neg (show ¬ S 406 i = 4 by rw [eq]; decide)]
          rw [if_neg (show ¬ S 406 i = 3 by rw [eq]; decide)] at this
          exact this
      · simp only [if_neg e]
        exact ih (i + 1) y ch S P M (DI_skip hD (fun q => absurd q e)) (by omega) (by omega)
    · have : i = nt := by omega
      subst this
      rw [if_pos (Int32.le_refl _), if_pos (Int32.le_refl _)]
      exact ⟨y, ch, S, P, M, rfl, rfl, hD⟩
theorem contig_lt {pl ln : Nat → Int32} : ∀ {L : List Nat} {p : Nat}, contig pl ln p L → p + total ln L ≤ 2000 → (∀ t ∈ L, ∃ x : Nat, ln t = nI x ∧ 20 ≤ x ∧ x ≤ 250) → L.Pairwise (fun a b => ¬ pl b ≤ pl a)
  | [], _, _, _, _ => List.Pairwise.nil
  | a :: L, p, h, h4, h3 => by
    obtain ⟨x, hx, hx1, hx2⟩ := h3 a (List.mem_cons_self ..)
    have h4' : p + (x + total ln L) ≤ 2000 := by
      have := h4; simp only [total] at this; rw [hx, nn_nI (by omega)] at this; exact this
    have h2 := h.2
    rw [hx, nn_nI (by omega)] at h2
    refine List.Pairwise.cons (fun b hb => ?_) (contig_lt h2 (by omega) (fun t ht => h3 t (List.mem_cons_of_mem _ ht)))
    obtain ⟨q, g1, g2, g3⟩ := ctg_ge h2 b hb
    rw [g2, h.1, nI_leI (by omega) (by omega)]; omega
theorem B_depart_ok : B_depart Inv := by
  rintro k S P N M a1 hk ⟨ns, nc, nv, nt, tn, bn, ch, hC, hM, hR⟩
  have hI : Inv (k + 1) S P N M := Inv_up _ _ _ _ _ ⟨ns, nc, nv, nt, tn, bn, ch, hC, hM, hR⟩
  have hb := hC.nt4
  have hv := hC.nv6
  have none_ : (a1 < 0 ∨ nI nv ≤ a1) → ∃ v S' P' M', f5_depart S P a1 = some (v, S', P') ∧ f6_depart M a1 = some (v, M') ∧ Inv (k + 1) S' P' N M' := by
    intro h
    refine ⟨-1, S, P, M, ?_, ?_, hI⟩
    · unfold f5_depart; rw [sn_none hC h]; rfl
    · unfold f6_depart; rw [isS_none hM h]; rfl
  rcases pk_ix a1 (n := nv) (by omega) with h | h | ⟨s, hs, rfl⟩
  · exact none_ (Or.inl h)
  · exact none_ (Or.inr h)
  · unfold f5_depart f6_depart
    obtain ⟨m1, m2, m3⟩ := hM.how s hs
    rw [sn_some hC hs, isS_some hM hv hs]
    simp only [Option.bind_some, Option.elim_some, if_neg one_ne, lt, ix_nI (show s < 60 by omega) (by decide), m1, m3]
    by_cases h1 : S 204 s = 1
    · simp only [if_pos h1]
      by_cases h2 : S 206 s = -1
      · simp only [if_pos h2]
        have yes : ∀ (v : Int32) (M' : TS), ¬ v = 0 → f6_nextTurn M (nI s) = some (v, M') → Scr M M' → f5_hasBoardingTurn S P s = some 1 → ∃ v S' P' M', ((f5_hasBoardingTurn S P s).bind fun v4 => if v4 = 0 then (f5_depart_41 (fun (S14 : TS) (P15 : TP) (w16) => some (w16, up S14 204 s (2), P15)) s FU S P (0) (0)) else (some ((-1), S, P))) = some (v, S', P') ∧ (b2 (f6_hasTurn M (nI s)) fun (v5) (M6 : TS) => if v5 = 0 then (f6_depart_49 (fun (M34 : TS) (w35) => some (w35, M34)) (nI s) FU (up M6 2900 s (2)) (0) (0)) else (some ((-1), M6))) = some (v, M') ∧ Inv (k + 1) S' P' N M' := by
          intro v M' hv0 hn hsc hh
          rw [hh, hasT hn, if_neg hv0, b2_some, if_neg one_ne, Option.bind_some, if_neg one_ne]
          exact ⟨-1, S, P, M', rfl, rfl, Inv_up _ _ _ _ _ ⟨ns, nc, nv, nt, tn, bn, ch, hC, MI_scr hM hsc, hR⟩⟩
        have h0 : ¬ S 206 s = 0 := by rw [h2]; decide
        rcases nextB hC hM hs h1 h0 with ⟨t, M', a1, a2, a3, a4, a5, a6, a7, a8⟩ | ⟨t, M', a1, a2, a3, a4, a5, a6⟩ | ⟨t, M', a1, a2, a3, a4, a5, a6, a7, a8, a9, a10⟩ | ⟨M', a1, a2, a3, a4, a5, a6, a7⟩
        · exact yes 1 M' one_ne a5 a6 a8
        · exact yes 2 M' (by decide) a3 a4 a6
        · exact yes 3 M' (by decide) a7 a8 a10
        · rw [a7, hasT a5, if_pos rfl, b2_some, if_pos rfl, Option.bind_some, if_pos rfl]
          have hM' := MI_scr hM a6
          have hi := hC.s3 hs
          have ctgf : ∀ i j, i < ns → j < nn (S 1499 i) → contig (S 410) (S 402) 0 (ch i j) ∧ total (S 402) (ch i j) ≤ nn (S 303 i) ∧ (ch i j).Nodup ∧ (ch i j).Pairwise (fun a b => S 414 a < S 414 b) := hC.ctg
          have hD : DI k ns nc nv nt tn bn s (vs P s) 0 ch S P N (up M' 2900 s 2) := by
            refine ⟨hC.c19, ?_, fun i j a b _ => ctgf i j a b, ?_, h1, a2, rfl, fun t h => absurd h (Nat.not_lt_zero _), fun s' hs' _ => hR s' hs', fun t ht e q => a4 t ht ⟨e, q⟩⟩
            · refine ⟨hM'.cnt, hM'.ship, hM'.cab, hM'.sail, ?_, ?_, hM'.ramp, ?_, hM'.turn, hM'.brd, hM'.log, ?_⟩
              · intro s' hs'
                obtain ⟨a, b⟩ := hM'.how s' hs'
                refine ⟨?_, b⟩
                rw [up_eq, up_eq, a]
              · intro s' hs' g
                by_cases e : s' = s
                · rw [e, up_v] at g; exact absurd g (by decide)
                · rw [up_i e] at g; exact hM'.off s' hs' g
              · intro t q ht hq
                refine (hM'.tick t q ht hq).trans ?_
                match q, hq with
                | 0, _ => rfl
                | 1, _ => rfl
                | 2, _ => rfl
                | 3, _ => rfl
                | 4, _ => rfl
                | 5, _ => rfl
                | 6, _ => rfl
                | 7, _ => rfl
                | 8, _ => rfl
                | 9, _ => rfl
                | 10, _ => rfl
                | 11, _ => rfl
                | 12, _ => rfl
              · intro s' hs'
                obtain ⟨a, b⟩ := hM'.new s' hs'
                refine ⟨?_, b⟩
                rw [up_eq, if_neg (by omega)]; exact a
            · intro j hj
              obtain ⟨w1, w2, w3, w4⟩ := ctgf (vs P s) j hi hj
              obtain ⟨D, W, n, g1, g2, g3, g4, e1, e2, e3, e4, b1, b2, b3, b4, b5, b6, hm⟩ := dims hC.ship hi
              have hx : ∀ t ∈ ch (vs P s) j, ∃ x : Nat, S 402 t = nI x ∧ 20 ≤ x ∧ x ≤ 250 := fun t ht => (hC.tick t ((hC.mem _ j t hi hj).mp ht).1).2.2.2.2.1
              have := tot_len hx
              exact ⟨w3, contig_lt w1 (by omega) hx, by omega⟩
          obtain ⟨r, ch', S', P', M2, d1, d2, d3⟩ := dep49 (h := vs P s) hs (fun (S14 : TS) (P15 : TP) (w16) => some (w16, up S14 204 s (2), P15)) (fun (M34 : TS) (w35) => some (w35, M34)) FU 0 0 ch S P (up M' 2900 s 2) hD (by omega) (by rw [FU_eq]; omega)
          refine ⟨r, up S' 204 s 2, P', M2, d1, d2, Inv_up _ _ _ _ _ ⟨ns, nc, nv, nt, tn, bn, ch', ?_, d3.2.1, ?_⟩⟩
          · obtain ⟨hC2, hM2, hO, hH, x1, hp, hvs, hdn, hRx, h12⟩ := d3
            have n2 : ¬ (2 : Int32) = 1 := by decide
            refine ⟨hC2.cnt, hC2.ship, hC2.cab, hC2.cabn, hC2.sail, ?_, ?_, ?_, hC2.tick, ?_, hC2.cb, hC2.tk, hC2.uq, hC2.std, hC2.turn, hC2.brd, hC2.lnk, hC2.mem, hC2.dl, ?_⟩
            · intro s' hs'
              obtain ⟨a, b, c, d⟩ := hC2.how s' hs'
              refine ⟨?_, b, ?_, d⟩
              · rw [up_eq]; split
                · exact Or.inr (Or.inr (Or.inl rfl))
                · exact a
              · rw [up_eq]; split
                · intro e; exact absurd e (by decide)
                · exact c
            · intro s1 s2 q1 q2
              rw [up_eq, up_eq]
              intro e1 e2 e3
              by_cases g1 : s1 = s
              · rw [if_pos g1] at e1; exact absurd e1 n2
              · by_cases g2 : s2 = s
                · rw [if_pos g2] at e2; exact absurd e2 n2
                · rw [if_neg g1] at e1; rw [if_neg g2] at e2; exact hC2.one s1 s2 q1 q2 e1 e2 e3
            · intro s' t hs' hpp
              obtain ⟨a, b, c, d, e⟩ := hC2.ramp s' t hs' hpp
              refine ⟨a, b, c, ?_, e⟩
              by_cases g : s' = s
              · rw [g, hp] at hpp; exact absurd hpp (by simp)
              · rw [up_i g]; exact d
            · intro t ht h3
              have h3 : S' 406 t = 3 := h3
              by_cases g : sl P' t = s
              · exact absurd h3 (hdn t ht ht g)
              · rw [up_i g]; exact hC2.ab t ht h3
            · intro i j hi' hj'
              by_cases e : i = vs P s
              · have : ch' i j = [] := by
                  cases hL : ch' i j with
                  | nil => rfl
                  | cons a L =>
                    obtain ⟨y1, y2, y3, -⟩ := (hC2.mem i j a hi' hj').mp (by rw [hL]; exact List.mem_cons_self ..)
                    have hsa := (hC2.tick a y1).2.2.2.1
                    have : sl P' a = s := hC2.one _ _ hsa hs (hC2.ab a y1 y2) x1 (by rw [hvs, ← e]; exact y3)
                    exact absurd y2 (hdn a y1 y1 this)
                rw [this]
                exact ⟨trivial, Nat.zero_le _, List.nodup_nil, List.Pairwise.nil⟩
              · exact hO i j hi' hj' e
          · intro s' hs' q1 q2
            by_cases e : s' = s
            · rw [e, up_v] at q1; exact absurd q1 (by decide)
            · rw [up_i e] at q1
              exact d3.2.2.2.2.2.2.2.2.1 s' hs' e q1 q2
      · simp only [if_neg h2]; exact ⟨_, _, _, _, rfl, rfl, hI⟩
    · simp only [if_neg h1]; exact ⟨_, _, _, _, rfl, rfl, hI⟩
end DEPARTB
