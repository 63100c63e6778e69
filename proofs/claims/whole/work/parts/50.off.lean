/-! a ticket comes off; off -/
section OFF
variable {k ns nc nv nt tn bn : Nat} {ch : Nat → Nat → List Nat} {S : TS} {P : TP} {N : TN} {M : TS}
theorem b2_some {α β γ : Type} {a : α} {b : β} {f : α → β → Option γ} : b2 (some (a, b)) f = f a b := rfl
theorem MI_sO (hM : MI ns nc nv nt tn bn S P M) {i j t z a : Nat} {v u w : Int32} {x y : Option Nat} (hw3 : ¬ w = 3) {M' : TS} (hc : ∀ c i, c ≠ 3500 → M' c i = M c i) (ho : ∀ t' q, t' ≠ t → q < 13 → M' 3500 (13 * t' + q) = M 3500 (13 * t' + q)) (hq : ∀ q, q < 13 → M' 3500 (13 * t + q) = tS (sO S i t z v u w) P q t) : MI ns nc nv nt tn bn (sO S i t z v u w) (pC P i j t a x y) M' := by
  have ab : ∀ t', sO S i t z v u w 406 t' = 3 → t' ≠ t ∧ S 406 t' = 3 := by
    intro t' h
    have e : t' ≠ t := fun e => by rw [e, sO_6] at h; exact hw3 h
    rw [sO_o e 406 (by decide) (by decide)] at h
    exact ⟨e, h⟩
  refine ⟨?_, ?_, ?_, ?_, ?_, ?_, ?_, ?_, ?_, ?_, ?_, ?_⟩
  · unfold MI_cnt
    rw [hc 620 0 (by decide), hc 621 0 (by decide), hc 622 0 (by decide), hc 623 0 (by decide)]; exact hM.cnt
  · intro i hi; rw [hc 2000 i (by decide), hc 2100 i (by decide), hc 2200 i (by decide), hc 2300 i (by decide)]; exact hM.ship i hi
  · intro i hi; rw [hc 2400 i (by decide), hc 2500 i (by decide)]; exact hM.cab i hi
  · intro i hi; rw [hc 2600 i (by decide), hc 2700 i (by decide), hc 2800 i (by decide)]; exact hM.sail i hi
  · intro i hi; rw [hc 2900 i (by decide), hc 3000 i (by decide), hc 3100 i (by decide)]; exact hM.how i hi
  · intro i hi; rw [hc 3400 i (by decide)]; exact hM.off i hi
  · intro i hi; rw [hc 3200 i (by decide), hc 3300 i (by decide)]; exact hM.ramp i hi
  · intro t' q ht' hq'
    by_cases e : t' = t
    · rw [e, hq q hq']
      match q, hq' with
      | 0, _ => rfl
      | 1, _ => rfl
      | 2, _ => rfl
      | 3, _ => rfl
      | 4, _ => rfl
      | 5, _ => rfl
      | 6, _ => rfl
      | 7, _ => rfl
      | 8, _ => rfl
      | 9, _ => rfl
      | 10, _ => rfl
      | 11, _ => rfl
      | 12, _ => rfl
    · rw [ho t' q e hq', hM.tick t' q ht' hq']
      match q, hq' with
      | 0, _ => rfl
      | 1, _ => exact (sO_o e 402 (by decide) (by decide)).symm
      | 2, _ => exact (sO_o e 403 (by decide) (by decide)).symm
      | 3, _ => exact (sO_o e 404 (by decide) (by decide)).symm
      | 4, _ => exact (sO_o e 406 (by decide) (by decide)).symm
      | 5, _ => exact (sO_o e 407 (by decide) (by decide)).symm
      | 6, _ => exact (sO_o e 408 (by decide) (by decide)).symm
      | 7, _ => exact (sO_o e 409 (by decide) (by decide)).symm
      | 8, _ => exact (sO_o e 410 (by decide) (by decide)).symm
      | 9, _ => exact (sO_o e 411 (by decide) (by decide)).symm
      | 10, _ => exact (sO_o e 405 (by decide) (by decide)).symm
      | 11, _ => exact (sO_o e 412 (by decide) (by decide)).symm
      | 12, _ => exact (sO_o e 413 (by decide) (by decide)).symm
  · unfold MI_turn; rw [hc 624 0 (by decide), hc 625 0 (by decide)]; exact hM.turn
  · constructor
    · intro t' ht' h
      obtain ⟨e, h⟩ := ab t' h
      rw [hc 3600 t' (by decide)]; exact hM.brd.1 t' ht' h
    · intro t1 t2 q1 q2 q3 q4
      obtain ⟨e1, f1⟩ := ab t1 q3
      obtain ⟨e2, f2⟩ := ab t2 q4
      rw [sO_o e1 414 (by decide) (by decide), sO_o e2 414 (by decide) (by decide), hc 3600 t1 (by decide), hc 3600 t2 (by decide)]
      exact hM.brd.2 t1 t2 q1 q2 f1 f2
  · intro i hi; rw [hc 3700 i (by decide), hc 3800 i (by decide), hc 3900 i (by decide)]; exact hM.log i hi
  · intro i hi; rw [hc 2900 i (by decide), hc 3000 i (by decide), hc 3300 i (by decide), hc 3400 i (by decide)]; exact hM.new i hi
/-- where a ticket aboard stands -/
theorem where_ (hC : CI k ns nc nv nt tn ch S P N) {t : Nat} (ht : t < nt) (h3 : S 406 t = 3) : ∃ d l A B, d < nn (S 301 (st P t)) ∧ l < nn (S 302 (st P t)) ∧ S 408 t = nI d ∧ S 409 t = nI l ∧ ch (st P t) (d * nn (S 302 (st P t)) + l) = A ++ t :: B := by
  obtain ⟨d, l, h8, h9, hd, hl⟩ := hC.dl t ht h3
  have hi := hC.st3 ht
  have hm := (chm hC hi hd hl t).mpr ⟨ht, h3, rfl, h8, h9⟩
  obtain ⟨A, B, e⟩ := List.append_of_mem hm
  exact ⟨d, l, A, B, hd, hl, h8, h9, e⟩
theorem brOff (hC : CI k ns nc nv nt tn ch S P N) (hM : MI ns nc nv nt tn bn S P M) {t : Nat} (ht : t < nt) (h3 : S 406 t = 3) (hr : ∀ s, s < nv → ¬ P 207 s 0 = some t) (hlast : ∀ A B : List Nat, ∀ d l : Nat, d < nn (S 301 (st P t)) → l < nn (S 302 (st P t)) → ch (st P t) (d * nn (S 302 (st P t)) + l) = A ++ t :: B → B = []) : ∃ ch' S' P' M', f5_bringOff S P t = some (S', P') ∧ f6_comesOff M (nI t) = some M' ∧ CI k ns nc nv nt tn ch' S' P' N ∧ MI ns nc nv nt tn bn S' P' M' ∧ (∀ c i, 200 ≤ c → c < 300 → S' c i = S c i) ∧ S' 511 0 = S 511 0 ∧ P' 207 = P 207 ∧ P' 401 = P 401 ∧ (∀ t', t' ≠ t → S' 406 t' = S 406 t') ∧ S' 406 t = 2 ∧ (∀ c i, c ≠ 3500 → M' c i = M c i) := by
  have hb := hC.nt4
  have hi := hC.st3 ht
  obtain ⟨d, l, A, B, hd, hl, h8, h9, hch⟩ := where_ hC ht h3
  have hB := hlast A B d l hd hl hch
  subst hB
  obtain ⟨k1, k2, k3, k4, k5, k6, k7⟩ := lane hC hi hd hl
  rw [hch] at k1 k2 k3 k4 k5 k6 k7
  have hA : ∀ a ∈ A, ¬ S 410 t ≤ S 410 a := by
    intro a ha
    obtain ⟨q1, p1, p2, p3⟩ : ∃ q : Nat, S 410 t = nI q ∧ total (S 402) A ≤ q ∧ q ≤ 2000 := by
      have : ∀ (A : List Nat) (p : Nat), contig (S 410) (S 402) p (A ++ [t]) → S 410 t = nI (p + total (S 402) A) := by
        intro A
        induction A with
        | nil => intro p h; exact h.1
        | cons x A ih => intro p h; rw [ih _ h.2]; simp only [total]; rw [Nat.add_assoc]
      rw [total_pre] at k3
      obtain ⟨D, W, n, g1, g2, g3, g4, e1, e2, e3, e4, b1, b2, b3, b4, b5, b6, hm⟩ := dims hC.ship hi
      exact ⟨0 + total (S 402) A, this A 0 k2, by omega, by omega⟩
    obtain ⟨q2, p4, p5, p6⟩ := ctg_ge (contig_pre k2) a ha
    obtain ⟨x, hx, x1, x2⟩ := k6 a (List.mem_append_left _ ha)
    rw [hx, nn_nI (by omega)] at p6
    rw [p1, p5, nI_leI (by omega) (by omega)]
    omega
  have hAl : A.length ≤ 400 := by simp only [List.length_append] at k7; omega
  obtain ⟨x, a, y, e1, e2, e3⟩ := clr5 hC.ship hi hd hl h8 h9 k1 k4 hA hAl
  obtain ⟨z, v, f1, f2⟩ := free5c hC ht h3 (X := sC S (st P t) t) rfl rfl (Q := pC P (st P t) (d * nn (S 302 (st P t)) + l) t a x y) (fun _ => rfl)
  have h19 := C19_sO hC.c19 ht h3 rfl hi hd hl h8 h9 hch k4 e2 e3 hr (z := z) (v := v) (u := -1) (w := 2) f2 (q := 2) rfl (by decide) (by decide) (Or.inr rfl)
  refine ⟨chS ch (st P t) (d * nn (S 302 (st P t)) + l) (A ++ []), sO S (st P t) t z v (-1) 2, pC P (st P t) (d * nn (S 302 (st P t)) + l) t a x y, up (up (up (up (up M 3500 (13 * t + 4) 2) 3500 (13 * t + 6) (-1)) 3500 (13 * t + 7) (-1)) 3500 (13 * t + 8) (-1)) 3500 (13 * t + 9) (-1), ?_, ?_, h19.ci ?_, MI_sO hM (by decide) ?_ ?_ ?_, ?_, rfl, rfl, rfl, ?_, sO_6, ?_⟩
  · unfold f5_bringOff
    simp only [lt, hC.t4 ht, Option.bind_some, hC.s2 (hC.t5 ht)]
    rw [show f3_clearPlace S P (vs P (sl P t)) t = _ from e1]
    rw [b2_some, f1, b2_some]; rfl
  · unfold f6_comesOff
    rw [put4 (by omega)]
    simp only [Option.bind_some, put6 (show t < 400 by omega), put7 (show t < 400 by omega), put8 (show t < 400 by omega), put9 (show t < 400 by omega)]
  · intro i' j' hi' hj'
    obtain ⟨g1, g2, g3, g4⟩ := hC.ctg i' j' hi' hj'
    have hn2 := List.nodup_append.mp k4
    have neA : ∀ u ∈ A, u ≠ t := fun u hu => hn2.2.2 u hu t (List.mem_cons_self ..)
    by_cases e : i' = st P t ∧ j' = d * nn (S 302 (st P t)) + l
    · unfold chS
      rw [if_pos e, List.append_nil, e.1]
      refine ⟨contig_congr (fun u hu => ⟨sO_o (neA u hu) 410 (by decide) (by decide), sO_o (neA u hu) 402 (by decide) (by decide)⟩) (contig_pre k2), ?_, hn2.1, ?_⟩
      · rw [total_congr (fun u hu => sO_o (neA u hu) 402 (by decide) (by decide))]
        rw [total_pre] at k3
        show total (S 402) A ≤ nn (S 303 (st P t)); omega
      · exact (List.pairwise_append.mp k5).1.imp_of_mem (fun {p q} hp hq h => by rw [sO_o (neA p hp) 414 (by decide) (by decide), sO_o (neA q hq) 414 (by decide) (by decide)]; exact h)
    · have ne : ∀ u ∈ ch i' j', u ≠ t := by
        intro u hu e'
        have hm := (h19.mem i' j' t hi' hj')
        have : t ∈ chS ch (st P t) (d * nn (S 302 (st P t)) + l) (A ++ []) i' j' := by
          unfold chS; rw [if_neg e]; rw [← e']; exact hu
        have := (hm.mp this).2.1
        rw [sO_6] at this; exact absurd this (by decide)
      unfold chS
      rw [if_neg e]
      refine ⟨contig_congr (fun u hu => ⟨sO_o (ne u hu) 410 (by decide) (by decide), sO_o (ne u hu) 402 (by decide) (by decide)⟩) g1, ?_, g3, ?_⟩
      · rw [total_congr (fun u hu => sO_o (ne u hu) 402 (by decide) (by decide))]; exact g2
      · exact g4.imp_of_mem (fun {p q} hp hq h => by rw [sO_o (ne p hp) 414 (by decide) (by decide), sO_o (ne q hq) 414 (by decide) (by decide)]; exact h)
  · intro c i' h; rw [up_c h, up_c h, up_c h, up_c h, up_c h]
  · intro t' q h1 h2
    rw [up_i (by omega), up_i (by omega), up_i (by omega), up_i (by omega), up_i (by omega)]
  · intro q hq
    have old := hM.tick t q ht hq
    match q, hq with
    | 0, _ => rw [up_i (by omega), up_i (by omega), up_i (by omega), up_i (by omega), up_i (by omega), old]; rfl
    | 1, _ => rw [up_i (by omega), up_i (by omega), up_i (by omega), up_i (by omega), up_i (by omega), old]; rfl
    | 2, _ => rw [up_i (by omega), up_i (by omega), up_i (by omega), up_i (by omega), up_i (by omega), old]; rfl
    | 3, _ => rw [up_i (by omega), up_i (by omega), up_i (by omega), up_i (by omega), up_i (by omega), old]; rfl
    | 4, _ => rw [up_i (by omega), up_i (by omega), up_i (by omega), up_i (by omega), up_v]; exact sO_6.symm
    | 5, _ => rw [up_i (by omega), up_i (by omega), up_i (by omega), up_i (by omega), up_i (by omega), old]; rfl
    | 6, _ => rw [up_i (by omega), up_i (by omega), up_i (by omega), up_v]; show _ = up S 408 t (-1) 408 t; rw [up_v]
    | 7, _ => rw [up_i (by omega), up_i (by omega), up_v]; show _ = up (up S 408 t (-1)) 409 t (-1) 409 t; rw [up_v]
    | 8, _ => rw [up_i (by omega), up_v]; show _ = up (up (up S 408 t (-1)) 409 t (-1)) 410 t (-1) 410 t; rw [up_v]
    | 9, _ => rw [up_v]; show _ = up (up (sC S (st P t) t) 102 z v) 411 t (-1) 411 t; rw [up_v]
    | 10, _ => rw [up_i (by omega), up_i (by omega), up_i (by omega), up_i (by omega), up_i (by omega), old]; rfl
    | 11, _ => rw [up_i (by omega), up_i (by omega), up_i (by omega), up_i (by omega), up_i (by omega), old]; rfl
    | 12, _ => rw [up_i (by omega), up_i (by omega), up_i (by omega), up_i (by omega), up_i (by omega), old]; rfl
  · intro c i' h1 h2
    unfold sO sC
    rw [up_c (by omega), up_c (by omega), up_c (by omega), up_c (by omega), up_c (by omega), up_c (by omega), up_c (by omega)]
  · intro t' h; exact sO_o h 406 (by decide) (by decide)
  · intro c i' h; rw [up_c h, up_c h, up_c h, up_c h, up_c h]
theorem rec_off {S' : TS} {P' : TP} {t : Nat} (ht : t < nt) (hR : Rec nv nt S P) (h1 : ∀ c i, 200 ≤ c → c < 300 → S' c i = S c i) (h2 : P' 401 = P 401) (h3 : ∀ t', t' ≠ t → S' 406 t' = S 406 t') (h4 : S' 406 t = 2) : Rec nv nt S' P' := by
  intro s hs q1 q2
  rw [h1 204 s (by decide) (by decide)] at q1
  rw [h1 206 s (by decide) (by decide)] at q2
  obtain ⟨t', a, b, c⟩ := hR s hs q1 q2
  refine ⟨t', a, ?_, ?_⟩
  · unfold sl; rw [h2]; exact b
  · by_cases e : t' = t
    · rw [e, h4]; decide
    · rw [h3 t' e]; exact c
theorem of61 (hC : CI k ns nc nv nt tn ch S P N) (hM : MI ns nc nv nt tn bn S P M) {s t : Nat} (hs : s < nv) (ht : t < nt) (K : Option (Int32 × TS)) : ∀ (n i : Nat), i ≤ nt → nt < i + n → (∃ u, u < nt ∧ sl P u = s ∧ S 406 u = 3 ∧ S 408 u = S 408 t ∧ S 409 u = S 409 t ∧ ¬ S 410 u ≤ S 410 t ∧ f6_off_61 K M (nI t) (nI s) n (nI i) = some (0, M)) ∨ ((∀ u, i ≤ u → u < nt → ¬ (sl P u = s ∧ S 406 u = 3 ∧ S 408 u = S 408 t ∧ S 409 u = S 409 t ∧ ¬ S 410 u ≤ S 410 t)) ∧ f6_off_61 K M (nI t) (nI s) n (nI i) = K) := by
  have hb := hC.nt4
  have hv := hC.nv6
  intro n
  induction n with
  | zero => intro i h1 h2; omega
  | succ n ih =>
    intro i h1 h2
    rw [f6_off_61, hM.cnt.2.2.2]
    rcases Nat.lt_or_ge i nt with hi | hi
    · rw [if_neg (nI_ge hi (by omega)), isAb hM hb hv hi (hC.t5 hi) hs]
      simp only [Option.bind_some, of6 hM hb hi, of7 hM hb hi, of8 hM hb hi, of6 hM hb ht, of7 hM hb ht, of8 hM hb ht, nI_1]
      have step : ¬ (sl P i = s ∧ S 406 i = 3 ∧ S 408 i = S 408 t ∧ S 409 i = S 409 t ∧ ¬ S 410 i ≤ S 410 t) → (∃ u, u < nt ∧ sl P u = s ∧ S 406 u = 3 ∧ S 408 u = S 408 t ∧ S 409 u = S 409 t ∧ ¬ S 410 u ≤ S 410 t ∧ f6_off_61 K M (nI t) (nI s) n (nI (i + 1)) = some (0, M)) ∨ ((∀ u, i ≤ u → u < nt → ¬ (sl P u = s ∧ S 406 u = 3 ∧ S 408 u = S 408 t ∧ S 409 u = S 409 t ∧ ¬ S 410 u ≤ S 410 t)) ∧ f6_off_61 K M (nI t) (nI s) n (nI (i + 1)) = K) := by
        intro hno
        rcases ih (i + 1) (by omega) (by omega) with g | ⟨g1, g2⟩
        · exact Or.inl g
        · refine Or.inr ⟨fun u q1 q2 => ?_, g2⟩
          rcases Nat.eq_or_lt_of_le q1 with e | e
          · rw [← e]; exact hno
          · exact g1 u e q2
      by_cases e1 : sl P i = s ∧ S 406 i = 3
      · simp only [if_pos e1, if_neg one_ne]
        by_cases e2 : S 408 i = S 408 t
        · simp only [if_pos e2]
          by_cases e3 : S 409 i = S 409 t
          · simp only [if_pos e3]
            by_cases e4 : S 410 i ≤ S 410 t
            · simp only [if_pos e4]; exact step (fun q => q.2.2.2.2 e4)
            · simp only [if_neg e4]; exact Or.inl ⟨i, hi, e1.1, e1.2, e2, e3, e4, by simp⟩
          · simp only [if_neg e3]; exact step (fun q => e3 q.2.2.2.1)
        · simp only [if_neg e2]; exact step (fun q => e2 q.2.2.1)
      · simp only [if_neg e1, if_true]; exact step (fun q => e1 ⟨q.1, q.2.1⟩)
    · have : i = nt := by omega
      subst this
      rw [if_pos (Int32.le_refl _)]
      exact Or.inr ⟨fun u q1 q2 => by omega, rfl⟩
/-- nobody stands behind exactly when no other of the lane stands farther from the bow -/
theorem behind (hC : CI k ns nc nv nt tn ch S P N) {t : Nat} (ht : t < nt) (h3 : S 406 t = 3) : (P 415 t 0 = none ∧ (∀ A B : List Nat, ∀ d l : Nat, d < nn (S 301 (st P t)) → l < nn (S 302 (st P t)) → ch (st P t) (d * nn (S 302 (st P t)) + l) = A ++ t :: B → B = []) ∧ ∀ u, u < nt → sl P u = sl P t → S 406 u = 3 → S 408 u = S 408 t → S 409 u = S 409 t → S 410 u ≤ S 410 t) ∨ (¬ P 415 t 0 = none ∧ ∃ u, u < nt ∧ sl P u = sl P t ∧ S 406 u = 3 ∧ S 408 u = S 408 t ∧ S 409 u = S 409 t ∧ ¬ S 410 u ≤ S 410 t) := by
  have hi := hC.st3 ht
  obtain ⟨d, l, A, B, hd, hl, h8, h9, hch⟩ := where_ hC ht h3
  obtain ⟨k1, k2, k3, k4, k5, k6, k7⟩ := lane hC hi hd hl
  obtain ⟨D, W, n, g1, g2, g3, g4, e1, e2, e3, e4, b1, b2, b3, b4, b5, b6, hm⟩ := dims hC.ship hi
  rw [e3] at k3
  have inj : ∀ d' l' : Nat, d' < nn (S 301 (st P t)) → l' < nn (S 302 (st P t)) → t ∈ ch (st P t) (d' * nn (S 302 (st P t)) + l') → d' = d ∧ l' = l := by
    intro d' l' hd' hl' h
    obtain ⟨-, -, -, f8, f9⟩ := (chm hC hi hd' hl' t).mp h
    rw [h8] at f8; rw [h9] at f9
    rw [e1] at hd hd'; rw [e2] at hl hl'
    exact ⟨(nI_inj (by omega) (by omega) f8).symm, (nI_inj (by omega) (by omega) f9).symm⟩
  have atT : ∀ (A : List Nat) (p : Nat) (B : List Nat), contig (S 410) (S 402) p (A ++ t :: B) → S 410 t = nI (p + total (S 402) A) ∧ contig (S 410) (S 402) (p + total (S 402) A + nn (S 402 t)) B := by
    intro A
    induction A with
    | nil => intro p B h; exact ⟨h.1, h.2⟩
    | cons x A ih =>
      intro p B h
      obtain ⟨q1, q2⟩ := ih _ B h.2
      simp only [total]
      exact ⟨by rw [q1, Nat.add_assoc], by rw [← Nat.add_assoc p]; exact q2⟩
  have k1' := k1; have k2' := k2; have k3' := k3; have k6' := k6
  rw [hch] at k1' k2' k3' k6'
  have htl := linked_tail A _ k1'
  obtain ⟨p1, p2⟩ := atT A 0 B k2'
  rw [total_pre] at k3'
  simp only [total] at k3'
  cases B with
  | nil =>
    refine Or.inl ⟨htl, ?_, ?_⟩
    · intro A' B' d' l' hd' hl' hch'
      obtain ⟨x1, x2⟩ := inj d' l' hd' hl' (by rw [hch']; exact List.mem_append_right _ (List.mem_cons_self ..))
      rw [x1, x2] at hch'
      have hl : linked (P 415) (P 415 t 0) B' := linked_tail A' _ (by rw [← hch']; exact k1)
      have hp0 : P 415 t 0 = none := htl
      rw [hp0] at hl
      cases B' with
      | nil => rfl
      | cons b B' => exact absurd hl.1 (by simp)
    · intro u hu q1 q2 q3 q4
      have hst : st P u = st P t := by unfold st; rw [q1]
      have hm := (chm hC hi hd hl u).mpr ⟨hu, q2, hst, by rw [q3, h8], by rw [q4, h9]⟩
      rw [hch] at hm
      rcases List.mem_append.mp hm with h | h
      · obtain ⟨q, y1, y2, y3⟩ := ctg_ge (contig_pre k2') u h
        rw [y2, p1]
        exact nI_le (by omega) (by omega)
      · rcases List.mem_cons.mp h with h | h
        · rw [h]; exact Int32.le_refl _
        · exact absurd h (by simp)
  | cons b B =>
    refine Or.inr ⟨by rw [htl.1]; simp, b, ?_⟩
    have hmb : b ∈ ch (st P t) (d * nn (S 302 (st P t)) + l) := by rw [hch]; exact List.mem_append_right _ (List.mem_cons_of_mem _ (List.mem_cons_self ..))
    obtain ⟨f1, f2, f3, f4, f5⟩ := (chm hC hi hd hl b).mp hmb
    refine ⟨f1, ?_, f2, by rw [f4, h8], by rw [f5, h9], ?_⟩
    · exact hC.one _ _ (hC.t5 f1) (hC.t5 ht) (hC.ab b f1 f2) (hC.ab t ht h3) f3
    · obtain ⟨x, hx, x1, x2⟩ := k6' t (List.mem_append_right _ (List.mem_cons_self ..))
      simp only [total] at k3'
      rw [p2.1, p1]
      rw [hx, nn_nI (by omega)] at k3' ⊢
      rw [nI_leI (by omega) (by omega)]; omega
theorem B_off_ok : B_off Inv := by
  rintro k S P N M a1 hk ⟨ns, nc, nv, nt, tn, bn, ch, hC, hM, hR⟩
  have hI : Inv (k + 1) S P N M := Inv_up _ _ _ _ _ ⟨ns, nc, nv, nt, tn, bn, ch, hC, hM, hR⟩
  have hb := hC.nt4
  have hv := hC.nv6
  have none_ : (a1 < 0 ∨ nI nt ≤ a1) → ∃ v S' P' M', f5_off S P a1 = some (v, S', P') ∧ f6_off M a1 = some (v, M') ∧ Inv (k + 1) S' P' N M' := by
    intro h
    refine ⟨0, S, P, M, ?_, ?_, hI⟩
    · unfold f5_off; rw [tn_none hC h]; rfl
    · unfold f6_off; rw [isT_none hM h]; rfl
  rcases pk_ix a1 (n := nt) (by omega) with h | h | ⟨t, ht, rfl⟩
  · exact none_ (Or.inl h)
  · exact none_ (Or.inr h)
  · have hsl := hC.t5 ht
    unfold f5_off f6_off
    obtain ⟨m1, m2, m3⟩ := hM.how _ hsl
    rw [tn_some hC ht, isT_some hM hb ht, of4 hM hb ht, of0 hM hb ht]
    simp only [Option.bind_some, Option.elim_some, if_neg one_ne, lt, ix_nI (show sl P t < 60 by omega) (by decide), m1, m3, hC.t4 ht, (hM.ramp _ hsl).1]
    by_cases h3 : S 406 t = 3
    · simp only [if_pos h3]
      have h1 := hC.ab t ht h3
      simp only [if_pos h1]
      by_cases h2 : S 206 (sl P t) = -1
      · simp only [if_pos h2]
        by_cases hr : P 207 (sl P t) 0 = some t
        · simp only [hr, if_true]
          refine ⟨0, S, P, M, ?_, ?_, hI⟩
          · cases P 415 t 0 with
            | none => simp only [Option.elim_none]
            | some b => simp only [Option.elim_some]
          · rw [if_pos (show oI (some t) = nI t from rfl)]
        · have hr6 : ¬ oI (P 207 (sl P t) 0) = nI t := by
            cases hp : P 207 (sl P t) 0 with
            | none => exact fun e => nI_neg1 (show t < 2 ^ 31 by omega) e.symm
            | some u =>
              intro e
              have hu := (hC.ramp _ u hsl hp).1
              rw [nI_inj (by omega) (by omega) e] at hp
              exact hr hp
          simp only [if_neg hr, if_neg hr6]
          have hrr : ∀ s, s < nv → ¬ P 207 s 0 = some t := by
            intro s hs e
            obtain ⟨-, -, q, -⟩ := hC.ramp s t hs e
            rw [← q] at e; exact hr e
          rcases behind hC ht h3 with ⟨g1, g2, g3⟩ | ⟨g1, u, u1, u2, u3, u4, u5, u6⟩
          · simp only [g1, Option.elim_none]
            obtain ⟨ch', S', P', M', e1, e2, e3, e4, e5, e6, e7, e8, e9, e10, e11⟩ := brOff hC hM ht h3 hrr g2
            rw [e1, e2]
            refine ⟨1, S', P', M', rfl, ?_, Inv_up _ _ _ _ _ ⟨ns, nc, nv, nt, tn, bn, ch', e3, e4, rec_off ht hR e5 e8 e9 e10⟩⟩
            rcases of61 hC hM hsl ht ((some M').bind fun (M24 : TS) => some ((1 : Int32), M24)) FU 0 (by omega) (by rw [FU_eq]; omega) with ⟨u, a, b, c, d, e, f, -⟩ | ⟨-, g⟩
            · exact absurd (g3 u a b c d e) f
            · exact g
          · refine ⟨0, S, P, M, ?_, ?_, hI⟩
            · cases hp : P 415 t 0 with
              | none => exact absurd hp g1
              | some b => simp only [Option.elim_some]
            · rcases of61 hC hM hsl ht ((f6_comesOff M (nI t)).bind fun (M24 : TS) => some ((1 : Int32), M24)) FU 0 (by omega) (by rw [FU_eq]; omega) with ⟨u, a, b, c, d, e, f, g⟩ | ⟨g, -⟩
              · exact g
              · exact absurd ⟨u2, u3, u4, u5, u6⟩ (g u (Nat.zero_le _) u1)
      · simp only [if_neg h2]
        refine ⟨0, S, P, M, ?_, rfl, hI⟩
        cases P 415 t 0 with
        | none => simp only [Option.elim_none]; split <;> rfl
        | some b => simp only [Option.elim_some]
    · simp only [if_neg h3]
      exact ⟨_, _, _, _, rfl, rfl, hI⟩
end OFF
