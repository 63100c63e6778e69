/-! who may stand on both sides; lane -/
section LANEB
variable {k ns nc nv nt tn bn : Nat} {ch : Nat → Nat → List Nat} {S : TS} {P : TP} {N : TN} {M : TS}
theorem tall0 (hC : CI k ns nc nv nt tn ch S P N) {i : Nat} (hi : i < ns) : (∃ t, t < nt ∧ S 406 t = 3 ∧ st P t = i ∧ Bad S 1 0 t ∧ f3_tallStandsUnder S P i = some 1) ∨ ((∀ t, t < nt → S 406 t = 3 → st P t = i → ¬ Bad S 1 0 t) ∧ f3_tallStandsUnder S P i = some 0) := by
  rcases tallU hC hi (some 0) FU 0 (by omega) (by rw [FU_eq]; omega) with ⟨t, l, h1, h2, h3, h4, h5, h6, h7, h8⟩ | ⟨h1, h2⟩
  · exact Or.inl ⟨t, h1, h2, h3, Or.inr ⟨rfl, h4, by rw [h5]; exact nI_ge (b := 2) h6 (by decide), h7⟩, h8⟩
  · refine Or.inr ⟨fun t a b c => ?_, h2⟩
    rintro (⟨q, -⟩ | ⟨-, q1, q2, q3⟩)
    · exact q rfl
    · obtain ⟨d', l', g1, g2, g3, g4⟩ := hC.dl t a b
      refine h1 t l' a b c q1 g2 (Nat.zero_le _) ?_ q3
      rcases Nat.lt_or_ge l' 2 with g | g
      · exact g
      · rw [g2] at q2
        obtain ⟨D, W, z, h1, h2, h3, h4, e1, e2, e3, e4, b1, b2, b3, b4, b5, b6, hm⟩ := dims hC.ship hi
        rw [c, e2] at g4
        exact absurd (show (2 : Int32) ≤ nI l' from nI_le (a := 2) g (by omega)) q2
theorem some0 (hC : CI k ns nc nv nt tn ch S P N) {i : Nat} (hi : i < ns) : (∃ t, t < nt ∧ S 406 t = 3 ∧ st P t = i ∧ Bad S 0 1 t ∧ f3_somethingOnDeckOne S P i = some 1) ∨ ((∀ t, t < nt → S 406 t = 3 → st P t = i → ¬ Bad S 0 1 t) ∧ f3_somethingOnDeckOne S P i = some 0) := by
  obtain ⟨D, W, z, g1, g2, g3, g4, e1, e2, e3, e4, b1, b2, b3, b4, b5, b6, hm⟩ := dims hC.ship hi
  rcases someD hC hi (some 0) FU 0 (by omega) (by rw [FU_eq, e2]; omega) with ⟨t, h1, h2, h3, h4, h5⟩ | ⟨h1, h2⟩
  · exact Or.inl ⟨t, h1, h2, h3, Or.inl ⟨one_ne, h4⟩, h5⟩
  · refine Or.inr ⟨fun t a b c => ?_, h2⟩
    rintro (⟨-, q⟩ | ⟨q, -⟩)
    · obtain ⟨d', l', f1, f2, f3, f4⟩ := hC.dl t a b
      exact h1 t l' a b c q f2 (Nat.zero_le _) (by rw [c] at f4; exact f4)
    · exact absurd q (by decide)
theorem loop6 (hC : CI k ns nc nv nt tn ch S P N) (hM : MI ns nc nv nt tn bn S P M) {i s : Nat} (hs : s < nv) (q1 : vs P s = i) (q2 : S 204 s = 1) (c3 k2 : Int32) : (∃ t, t < nt ∧ S 406 t = 3 ∧ st P t = i ∧ Bad S c3 k2 t ∧ f6_mayStand_73 (some 1) M (nI s) c3 k2 FU 0 = some 0) ∨ ((∀ t, t < nt → S 406 t = 3 → st P t = i → ¬ Bad S c3 k2 t) ∧ f6_mayStand_73 (some 1) M (nI s) c3 k2 FU 0 = some 1) := by
  have hb := hC.nt4
  rcases ms73 hC hM hs c3 k2 (some 1) FU 0 (by omega) (by rw [FU_eq]; omega) with ⟨t, h1, h2, h3, h4, h5⟩ | ⟨h1, h2⟩
  · obtain ⟨y1, y2⟩ := (ab_open hC hs q1 q2 h1).mpr ⟨h3, h2⟩
    exact Or.inl ⟨t, h1, y1, y2, h4, h5⟩
  · refine Or.inr ⟨fun t a b c d => ?_, h2⟩
    obtain ⟨y1, y2⟩ := (ab_open hC hs q1 q2 a).mp ⟨b, c⟩
    exact h1 t (Nat.zero_le _) a ⟨y2, y1, d⟩
theorem mst (hC : CI k ns nc nv nt tn ch S P N) (hM : MI ns nc nv nt tn bn S P M) {i : Nat} (hi : i < ns) {d l : Nat} (hd : d < nn (S 301 i)) (hl : l < nn (S 302 i)) {so : Int32} (hso : So ns nv nt S P i so) (h : Int32) : ∃ v, (v = 0 ∨ v = 1) ∧ f3_mayStand S P i (nI d) (nI l) h = some v ∧ f6_mayStand M so (nI i) (nI d) (nI l) h = some v := by
  have hns := hC.ns1
  have hv := hC.nv6
  obtain ⟨D, W, z, h1, h2, h3, h4, e1, e2, e3, e4, b1, b2, b3, b4, b5, b6, hm⟩ := dims hC.ship hi
  rw [e1] at hd
  rw [e2] at hl
  unfold f3_mayStand f6_mayStand
  simp only [lt, ix_nI (show i < 12 by omega) (by decide), Option.bind_some, (hM.ship i hi).2.2.2]
  have z0 : ∃ v : Int32, (v = 0 ∨ v = 1) ∧ some (0 : Int32) = some v ∧ some (0 : Int32) = some v := ⟨0, Or.inl rfl, rfl, rfl⟩
  have z1 : ∃ v : Int32, (v = 0 ∨ v = 1) ∧ some (1 : Int32) = some v ∧ some (1 : Int32) = some v := ⟨1, Or.inr rfl, rfl, rfl⟩
  have d1 : (nI d = 1) = (d = 1) := propext (nI_eq (b := 1) (by omega) (by decide))
  have d0 : (nI d = 0) = (d = 0) := propext (nI_eq (b := 0) (by omega) (by decide))
  have l2 : ((2 : Int32) ≤ nI l) = (2 ≤ l) := propext (nI_leI (a := 2) (by decide) (by omega))
  have dp : ((0 : Int32) < nI d) = (0 < d) := propext (nI_ltI (a := 0) (by decide) (by omega))
  simp only [d1, d0, l2, dp]
  by_cases half : S 304 i = 0
  · simp only [if_pos half]
    by_cases x2 : h = 2
    · simp only [if_pos x2]
      by_cases y : 0 < d
      · simp only [if_pos y]; exact z0
      · have n1 : ¬ h = 1 := by rw [x2]; decide
        simp only [if_neg y, if_neg n1]; exact z1
    · simp only [if_neg x2]
      by_cases x1 : h = 1
      · simp only [if_pos x1]
        by_cases y : nI d ≤ 1
        · simp only [if_pos y]; exact z1
        · simp only [if_neg y]; exact z0
      · simp only [if_neg x1]; exact z1
  · simp only [if_neg half]
    by_cases x2 : h = 2
    · have n1 : ¬ h = 1 := by rw [x2]; decide
      simp only [if_pos x2, if_neg n1]
      by_cases y : 0 < d
      · simp only [if_pos y]; exact z0
      · have y0 : d = 0 := by omega
        subst y0
        simp only [if_neg y, show ¬ (0 = 1) by decide, if_false, if_true]
        by_cases y2 : 2 ≤ l
        · simp only [if_pos y2, if_true]
          have : (nI 0 = 1) = False := by simp [nI]
          rcases hso with ⟨rfl, -⟩ | ⟨s, hs, rfl, q1, q2⟩
          · simp only [if_true]; exact z1
          · simp only [if_neg (nI_neg1 (show s < 2 ^ 31 by omega)), d1, d0]; exact z1
        · simp only [if_neg y2, if_neg one_ne]
          rcases hso with ⟨rfl, hno⟩ | ⟨s, hs, rfl, q1, q2⟩
          · simp only [if_true]
            rcases some0 hC hi with ⟨t, a, b, c, -⟩ | ⟨-, g⟩
            · exact absurd ⟨b, c⟩ (hno t a)
            · rw [g]; exact z1
          · simp only [if_neg (nI_neg1 (show s < 2 ^ 31 by omega))]
            rcases loop6 hC hM hs q1 q2 (nI 0) 1 with ⟨t, a, b, c, e, f⟩ | ⟨f1, f2⟩
            · rw [f]
              rcases some0 hC hi with ⟨t, a, b, c, e, g⟩ | ⟨g1, -⟩
              · rw [g]; exact z0
              · exact absurd e (g1 t a b c)
            · rw [f2]
              rcases some0 hC hi with ⟨t, a, b, c, e, g⟩ | ⟨-, g⟩
              · exact absurd e (f1 t a b c)
              · rw [g]; exact z1
    · simp only [if_neg x2]
      have main : ∃ v : Int32, (v = 0 ∨ v = 1) ∧ (if d = 1 then (f3_tallStandsUnder S P i).bind fun v4 => if v4 = 0 then some (1 : Int32) else some 0 else some 1) = some v ∧ (if so = -1 then some (1 : Int32) else if d = 1 then f6_mayStand_73 (some 1) M so (nI d) 0 FU 0 else some 1) = some v := by
        by_cases y : d = 1
        · subst y
          simp only [if_true]
          rcases hso with ⟨rfl, hno⟩ | ⟨s, hs, rfl, q1, q2⟩
          · simp only [if_true]
            rcases tall0 hC hi with ⟨t, a, b, c, -⟩ | ⟨-, g⟩
            · exact absurd ⟨b, c⟩ (hno t a)
            · rw [g]; exact z1
          · simp only [if_neg (nI_neg1 (show s < 2 ^ 31 by omega))]
            rcases loop6 hC hM hs q1 q2 (nI 1) 0 with ⟨t, a, b, c, e, f⟩ | ⟨f1, f2⟩
            · rw [f]
              rcases tall0 hC hi with ⟨t, a, b, c, e, g⟩ | ⟨g1, -⟩
              · rw [g]; exact z0
              · exact absurd e (g1 t a b c)
            · rw [f2]
              rcases tall0 hC hi with ⟨t, a, b, c, e, g⟩ | ⟨-, g⟩
              · exact absurd e (f1 t a b c)
              · rw [g]; exact z1
        · simp only [if_neg y]
          split <;> exact z1
      have e5 : (if d = 1 then (f3_tallStandsUnder S P i).bind fun v4 => if v4 = 0 then some (1 : Int32) else some 0 else if d = 0 then if 2 ≤ l then if (0 : Int32) = 0 then some 1 else (f3_somethingOnDeckOne S P i).bind fun v2 => if v2 = 0 then some 1 else some 0 else if (0 : Int32) = 0 then some 1 else (f3_somethingOnDeckOne S P i).bind fun v2 => if v2 = 0 then some 1 else some 0 else if (0 : Int32) = 0 then some 1 else (f3_somethingOnDeckOne S P i).bind fun v2 => if v2 = 0 then some 1 else some 0) = (if d = 1 then (f3_tallStandsUnder S P i).bind fun v4 => if v4 = 0 then some (1 : Int32) else some 0 else some 1) := by
        repeat' split
        all_goals first | rfl | contradiction
      simp only [if_true] at e5 ⊢
      rw [e5]
      by_cases x1 : h = 1
      · simp only [if_pos x1]
        by_cases y : nI d ≤ 1
        · simp only [if_pos y]; exact main
        · simp only [if_neg y]; exact z0
      · simp only [if_neg x1]; exact main
theorem openSo (hC : CI k ns nc nv nt tn ch S P N) (hM : MI ns nc nv nt tn bn S P M) {i : Nat} (hi : i < ns) : ∃ so, So ns nv nt S P i so ∧ f6_openOf M (nI i) = some so := by
  rcases opn0 hC hM hi with ⟨s, hs, q1, q2, -, q4⟩ | ⟨q1, -, q4⟩
  · exact ⟨nI s, Or.inr ⟨s, hs, rfl, q1, q2⟩, q4⟩
  · exact ⟨-1, Or.inl ⟨rfl, fun t ht => ab_none hC q1 ht⟩, q4⟩
theorem B_lane_ok : B_lane Inv := by
  rintro k S P N M a1 a2 a3 a4 hk ⟨ns, nc, nv, nt, tn, bn, ch, hC, hM, hR⟩
  have hI : Inv (k + 1) S P N M := Inv_up _ _ _ _ _ ⟨ns, nc, nv, nt, tn, bn, ch, hC, hM, hR⟩
  have hns := hC.ns1
  have none_ : (a1 < 0 ∨ nI ns ≤ a1) → ∃ v M', f5_lane S P a1 a2 a3 a4 = some v ∧ f6_lane M a1 a2 a3 a4 = some (v, M') ∧ Inv (k + 1) S P N M' := by
    intro h
    refine ⟨-1, M, ?_, ?_, hI⟩
    · unfold f5_lane; rw [pn_none hC h]; rfl
    · unfold f6_lane f6_isLane; rw [isP_none hM h]; rfl
  rcases pk_ix a1 (n := ns) (by omega) with h | h | ⟨i, hi, rfl⟩
  · exact none_ (Or.inl h)
  · exact none_ (Or.inr h)
  · obtain ⟨so, hso, eso⟩ := openSo hC hM hi
    unfold f5_lane f6_lane
    rw [pn_some hC hi]
    simp only [Option.bind_some, Option.elim_some, isIn_eq, eso]
    rcases isLn hC hM hi a2 a3 with ⟨g1, g2, d, l, rfl, rfl, hd, hl⟩ | ⟨g1, g2⟩
    · rw [g1, g2]
      simp only [Option.bind_some, if_neg one_ne]
      rcases within_c a4 0 4 with ⟨w, w1, w2⟩ | ⟨w, w1⟩
      · rw [w]
        simp only [Option.bind_some, if_neg one_ne]
        obtain ⟨M', m1, m2, m3, m4, -⟩ := meas hC hM hi hd hl hso (c := 1) (by decide)
        have m1 : f6_measure M so (nI i) (nI d) (nI l) 1 = some M' := m1
        have hI' : Inv (k + 1) S P N M' := Inv_up _ _ _ _ _ ⟨ns, nc, nv, nt, tn, bn, ch, hC, MI_scr hM m2, hR⟩
        obtain ⟨q, rfl, -, hq⟩ := within_nat (a := 0) (b := 4) (by decide) (by decide) w1 w2
        have stand : ∀ x : Int32, ∃ v M', ((f3_mayStand S P i (nI d) (nI l) x).bind fun v10 => if v10 = 0 then some (0 : Int32) else some 1) = some v ∧ ((f6_mayStand M so (nI i) (nI d) (nI l) x).bind fun v9 => if v9 = 0 then some (0, M) else some (1, M)) = some (v, M') ∧ Inv (k + 1) S P N M' := by
          intro x
          obtain ⟨v, hv, f1, f2⟩ := mst hC hM hi hd hl hso x
          rw [f1, f2]
          rcases hv with rfl | rfl
          · exact ⟨0, M, rfl, rfl, hI⟩
          · exact ⟨1, M, rfl, rfl, hI⟩
        match q, hq with
        | 0, _ =>
          rw [if_pos (show nI 0 = 0 from rfl), if_pos (show nI 0 ≤ 1 by decide), free5 hC hi hd hl, m1]
          refine ⟨_, M', rfl, ?_, hI'⟩
          rw [Option.bind_some, if_pos (show nI 0 = 0 from rfl), m3]
        | 1, _ =>
          rw [if_neg (show ¬ nI 1 = 0 by decide), if_pos (show nI 1 = 1 from rfl), if_pos (show nI 1 ≤ 1 by decide), long5 hC hi hd hl, m1]
          refine ⟨_, M', rfl, ?_, hI'⟩
          rw [Option.bind_some, if_neg (show ¬ nI 1 = 0 by decide), m4]
        | 2, _ =>
          rw [if_neg (show ¬ nI 2 = 0 by decide), if_neg (show ¬ nI 2 = 1 by decide), if_pos (show nI 2 = 2 from rfl), if_neg (show ¬ nI 2 ≤ 1 by decide)]
          exact stand _
        | 3, _ =>
          rw [if_neg (show ¬ nI 3 = 0 by decide), if_neg (show ¬ nI 3 = 1 by decide), if_neg (show ¬ nI 3 = 2 by decide), if_pos (show nI 3 = 3 from rfl), if_neg (show ¬ nI 3 ≤ 1 by decide)]
          exact stand _
        | 4, _ =>
          rw [if_neg (show ¬ nI 4 = 0 by decide), if_neg (show ¬ nI 4 = 1 by decide), if_neg (show ¬ nI 4 = 2 by decide), if_neg (show ¬ nI 4 = 3 by decide), if_pos (show nI 4 = 4 from rfl), if_neg (show ¬ nI 4 ≤ 1 by decide)]
          exact stand _
      · rw [w]
        have n0 : ∀ q : Nat, q ≤ 4 → ¬ a4 = nI q := by
          rintro q hq rfl
          rcases w1 with g | g
          · exact nI_pos (by omega) g
          · exact nI_nlt (a := 4) (b := q) hq (by decide) g
        rw [if_neg (show ¬ a4 = 0 from n0 0 (by omega)), if_neg (show ¬ a4 = 1 from n0 1 (by omega)), if_neg (show ¬ a4 = 2 from n0 2 (by omega)), if_neg (show ¬ a4 = 3 from n0 3 (by omega)), if_neg (show ¬ a4 = 4 from n0 4 (by omega))]
        exact ⟨-1, M, rfl, rfl, hI⟩
    · rw [g1, g2]
      exact ⟨-1, M, rfl, rfl, hI⟩
end LANEB
