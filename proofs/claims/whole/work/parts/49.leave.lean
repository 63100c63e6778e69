/-! a ticket leaves its place: the invariants -/
section LEAVE
variable {k ns nc nv nt tn bn : Nat} {ch : Nat → Nat → List Nat} {S : TS} {P : TP} {N : TN} {M : TS}
def C19 (k ns nc nv nt tn : Nat) (ch : Nat → Nat → List Nat) (S : TS) (P : TP) (N : TN) : Prop := CI_cnt ns nc nv nt S N ∧ CI_ship ns S P ∧ CI_cab ns nc S P ∧ CI_cabn ns nc S P ∧ CI_sail ns nv S P ∧ CI_how nv S P ∧ CI_one nv S P ∧ CI_ramp nv nt S P ∧ CI_tick nv nt S P ∧ CI_ab nt S P ∧ CI_cb nc nt S P ∧ CI_tk nc nt S ∧ CI_uq nt S ∧ CI_std ns nt S P ∧ CI_turn k tn S ∧ CI_brd nt tn S ∧ CI_lnk ns ch S P ∧ CI_mem ns nt ch S P ∧ CI_dl nt S P
theorem C19.cnt (h : C19 k ns nc nv nt tn ch S P N) : CI_cnt ns nc nv nt S N := h.1
theorem C19.ship (h : C19 k ns nc nv nt tn ch S P N) : CI_ship ns S P := h.2.1
theorem C19.cab (h : C19 k ns nc nv nt tn ch S P N) : CI_cab ns nc S P := h.2.2.1
theorem C19.cabn (h : C19 k ns nc nv nt tn ch S P N) : CI_cabn ns nc S P := h.2.2.2.1
theorem C19.sail (h : C19 k ns nc nv nt tn ch S P N) : CI_sail ns nv S P := h.2.2.2.2.1
theorem C19.how (h : C19 k ns nc nv nt tn ch S P N) : CI_how nv S P := h.2.2.2.2.2.1
theorem C19.one (h : C19 k ns nc nv nt tn ch S P N) : CI_one nv S P := h.2.2.2.2.2.2.1
theorem C19.ramp (h : C19 k ns nc nv nt tn ch S P N) : CI_ramp nv nt S P := h.2.2.2.2.2.2.2.1
theorem C19.tick (h : C19 k ns nc nv nt tn ch S P N) : CI_tick nv nt S P := h.2.2.2.2.2.2.2.2.1
theorem C19.ab (h : C19 k ns nc nv nt tn ch S P N) : CI_ab nt S P := h.2.2.2.2.2.2.2.2.2.1
theorem C19.cb (h : C19 k ns nc nv nt tn ch S P N) : CI_cb nc nt S P := h.2.2.2.2.2.2.2.2.2.2.1
theorem C19.tk (h : C19 k ns nc nv nt tn ch S P N) : CI_tk nc nt S := h.2.2.2.2.2.2.2.2.2.2.2.1
theorem C19.uq (h : C19 k ns nc nv nt tn ch S P N) : CI_uq nt S := h.2.2.2.2.2.2.2.2.2.2.2.2.1
theorem C19.std (h : C19 k ns nc nv nt tn ch S P N) : CI_std ns nt S P := h.2.2.2.2.2.2.2.2.2.2.2.2.2.1
theorem C19.turn (h : C19 k ns nc nv nt tn ch S P N) : CI_turn k tn S := h.2.2.2.2.2.2.2.2.2.2.2.2.2.2.1
theorem C19.brd (h : C19 k ns nc nv nt tn ch S P N) : CI_brd nt tn S := h.2.2.2.2.2.2.2.2.2.2.2.2.2.2.2.1
theorem C19.lnk (h : C19 k ns nc nv nt tn ch S P N) : CI_lnk ns ch S P := h.2.2.2.2.2.2.2.2.2.2.2.2.2.2.2.2.1
theorem C19.mem (h : C19 k ns nc nv nt tn ch S P N) : CI_mem ns nt ch S P := h.2.2.2.2.2.2.2.2.2.2.2.2.2.2.2.2.2.1
theorem C19.dl (h : C19 k ns nc nv nt tn ch S P N) : CI_dl nt S P := h.2.2.2.2.2.2.2.2.2.2.2.2.2.2.2.2.2.2
theorem CI.c19 (h : CI k ns nc nv nt tn ch S P N) : C19 k ns nc nv nt tn ch S P N := ⟨h.cnt, h.ship, h.cab, h.cabn, h.sail, h.how, h.one, h.ramp, h.tick, h.ab, h.cb, h.tk, h.uq, h.std, h.turn, h.brd, h.lnk, h.mem, h.dl⟩
theorem C19.ci (h : C19 k ns nc nv nt tn ch S P N) (g : CI_ctg ns ch S) : CI k ns nc nv nt tn ch S P N := ⟨h.cnt, h.ship, h.cab, h.cabn, h.sail, h.how, h.one, h.ramp, h.tick, h.ab, h.cb, h.tk, h.uq, h.std, h.turn, h.brd, h.lnk, h.mem, h.dl, g⟩
theorem C19_sO (hC : C19 k ns nc nv nt tn ch S P N) {i d l t : Nat} (ht : t < nt) (h3 : S 406 t = 3) (hst : st P t = i) (hi : i < ns) (hd : d < nn (S 301 i)) (hl : l < nn (S 302 i)) (h8 : S 408 t = nI d) (h9 : S 409 t = nI l) {A B : List Nat} (hch : ch i (d * nn (S 302 i) + l) = A ++ t :: B) (hN : (A ++ t :: B).Nodup) {a : Nat} (ha : a = t ∨ a ∈ A) {x y : Option Nat} (hlk : linked (pC P i (d * nn (S 302 i) + l) t a x y 415) (pC P i (d * nn (S 302 i) + l) t a x y 1400 i (d * nn (S 302 i) + l)) (A ++ B)) (hr : ∀ s, s < nv → ¬ P 207 s 0 = some t) {z : Nat} {v u w : Int32} (hz : (S 411 t = -1 ∧ v = S 102 z) ∨ (S 411 t = nI z ∧ z < nc ∧ v = 0)) {q : Nat} (hw : w = nI q) (hq : q ≤ 7) (hw3 : ¬ w = 3) (hu : w = 6 ∨ u = -1) : C19 k ns nc nv nt tn (chS ch i (d * nn (S 302 i) + l) (A ++ B)) (sO S i t z v u w) (pC P i (d * nn (S 302 i) + l) t a x y) N := by
  have hb := hC.cnt.2.1.2.2.2
  have hnc := hC.cnt.2.1.2.1
  have ab : ∀ t', sO S i t z v u w 406 t' = 3 → t' ≠ t ∧ S 406 t' = 3 := by
    intro t' h
    have e : t' ≠ t := fun e => by rw [e, sO_6] at h; exact hw3 h
    rw [sO_o e 406 (by decide) (by decide)] at h
    exact ⟨e, h⟩
  have inA : ∀ t', t' ∈ A ++ t :: B ↔ t' < nt ∧ S 406 t' = 3 ∧ st P t' = i ∧ S 408 t' * S 302 i + S 409 t' = nI (d * nn (S 302 i) + l) := by
    intro t'
    rw [← hch]
    obtain ⟨D, W, n, h1, h2, hh3, h4, e1, e2, e3, e4, b1, b2, b3, b4, b5, b6, hm⟩ := dims hC.ship hi
    refine hC.mem i _ t' hi ?_
    rw [e4, e2]; rw [e1] at hd; rw [e2] at hl; exact jlt hd hl
  have hsub : ∀ t', t' ∈ A ++ B ↔ t' ∈ A ++ t :: B ∧ t' ≠ t := by
    intro t'
    have hn := List.nodup_append.mp hN
    constructor
    · intro h
      rcases List.mem_append.mp h with h | h
      · exact ⟨List.mem_append_left _ h, hn.2.2 t' h t (List.mem_cons_self ..)⟩
      · refine ⟨List.mem_append_right _ (List.mem_cons_of_mem _ h), fun e => ?_⟩
        rw [e] at h; exact (List.nodup_cons.mp hn.2.1).1 h
    · rintro ⟨h, e⟩
      rcases List.mem_append.mp h with h | h
      · exact List.mem_append_left _ h
      · rcases List.mem_cons.mp h with h | h
        · exact absurd h e
        · exact List.mem_append_right _ h
  have haA : a ∈ A ++ t :: B := by
    rcases ha with e | e
    · rw [e]; exact List.mem_append_right _ (List.mem_cons_self ..)
    · exact List.mem_append_left _ e
  refine ⟨hC.cnt, hC.ship, ?_, hC.cabn, hC.sail, hC.how, hC.one, ?_, ?_, ?_, ?_, ?_, ?_, ?_, hC.turn, ?_, ?_, ?_, ?_⟩
  · intro c hc
    obtain ⟨g1, g2, g3, g4⟩ := hC.cab c hc
    refine ⟨g1, g2, g3, ?_⟩
    show up (sC S i t) 102 z v 102 c = 0 ∨ up (sC S i t) 102 z v 102 c = 1
    rw [up_eq]
    by_cases e : c = z
    · rw [if_pos e]
      rcases hz with ⟨-, hv⟩ | ⟨-, -, hv⟩
      · rw [hv, ← e]; exact g4
      · exact Or.inl hv
    · rw [if_neg e]; exact g4
  · intro s t' hs hp
    obtain ⟨g1, g2, g3, g4, g5⟩ := hC.ramp s t' hs hp
    have e : t' ≠ t := fun e => hr s hs (by rw [← e]; exact hp)
    rw [sO_o e 406 (by decide) (by decide), sO_o e 411 (by decide) (by decide)]
    exact ⟨g1, g2, g3, g4, g5⟩
  · intro t' ht'
    obtain ⟨g1, g2, g3, g4, g5, g6, g7⟩ := hC.tick t' ht'
    refine ⟨g1, g2, g3, g4, g5, ?_, ?_⟩
    · by_cases e : t' = t
      · rw [e, sO_6]; exact ⟨q, hq, hw⟩
      · rw [sO_o e 406 (by decide) (by decide)]; exact g6
    · by_cases e : t' = t
      · rw [e, sO_6]
        intro _ h6
        show up (up (sC S i t) 102 z v) 411 t u 411 t = -1
        rw [up_v]; exact hu.resolve_left h6
      · rw [sO_o e 406 (by decide) (by decide), sO_o e 411 (by decide) (by decide)]; exact g7
  · intro t' ht' h
    obtain ⟨e, h⟩ := ab t' h
    exact hC.ab t' ht' h
  · intro t' ht' h
    obtain ⟨e, h⟩ := ab t' h
    rw [sO_o e 411 (by decide) (by decide)]
    exact hC.cb t' ht' h
  · intro c hc
    have wit : (∃ t', t' < nt ∧ sO S i t z v u w 406 t' = 3 ∧ sO S i t z v u w 411 t' = nI c) ↔ ∃ t', t' < nt ∧ t' ≠ t ∧ S 406 t' = 3 ∧ S 411 t' = nI c := by
      constructor
      · rintro ⟨t', g1, g2, g3⟩
        obtain ⟨e, h⟩ := ab t' g2
        rw [sO_o e 411 (by decide) (by decide)] at g3
        exact ⟨t', g1, e, h, g3⟩
      · rintro ⟨t', g1, e, g2, g3⟩
        exact ⟨t', g1, by rw [sO_o e 406 (by decide) (by decide)]; exact g2, by rw [sO_o e 411 (by decide) (by decide)]; exact g3⟩
    rw [wit]
    show up (sC S i t) 102 z v 102 c = 1 ↔ _
    rw [up_eq]
    have old := hC.tk c hc
    rcases hz with ⟨h1, hv⟩ | ⟨h1, h2, hv⟩
    · have : (if c = z then v else sC S i t 102 c) = S 102 c := by
        by_cases e : c = z
        · rw [if_pos e, hv, e]
        · rw [if_neg e]; rfl
      rw [this, old]
      constructor
      · rintro ⟨t', g1, g2, g3⟩
        refine ⟨t', g1, fun e => ?_, g2, g3⟩
        rw [e, h1] at g3; exact nI_neg1 (by omega) g3.symm
      · rintro ⟨t', g1, -, g2, g3⟩; exact ⟨t', g1, g2, g3⟩
    · by_cases e : c = z
      · rw [if_pos e, hv]
        constructor
        · intro h; exact absurd h (by decide)
        · rintro ⟨t', g1, g2, g3, g4⟩
          exact absurd (hC.uq t' t g1 ht g3 h3 (by rw [g4, h1, e]) (by rw [g4]; exact nI_neg1 (by omega))) g2
      · rw [if_neg e]
        show S 102 c = 1 ↔ _
        rw [old]
        constructor
        · rintro ⟨t', g1, g2, g3⟩
          refine ⟨t', g1, fun e' => ?_, g2, g3⟩
          rw [e', h1] at g3; exact e (nI_inj (by omega) (by omega) g3).symm
        · rintro ⟨t', g1, -, g2, g3⟩; exact ⟨t', g1, g2, g3⟩
  · intro t1 t2 q1 q2 q3 q4
    obtain ⟨e1, f1⟩ := ab t1 q3
    obtain ⟨e2, f2⟩ := ab t2 q4
    rw [sO_o e1 411 (by decide) (by decide), sO_o e2 411 (by decide) (by decide)]
    exact hC.uq t1 t2 q1 q2 f1 f2
  · intro i' hi'
    show up (up (up (up S 408 t (-1)) 409 t (-1)) 410 t (-1)) 306 i (S 306 i - 1) 306 i' = _
    rw [up_eq]
    have hst' : ∀ t', st (pC P i (d * nn (S 302 i) + l) t a x y) t' = st P t' := fun _ => rfl
    by_cases e : i' = i
    · rw [if_pos e, hC.std i hi]
      have hc := cnt_set (n := nt) (i := t) (p := fun t' => decide (sO S i t z v u w 406 t' = 3 ∧ st (pC P i (d * nn (S 302 i) + l) t a x y) t' = i')) (q := fun t' => decide (S 406 t' = 3 ∧ st P t' = i')) ht (fun t' h1 h2 => by
        rw [sO_o h1 406 (by decide) (by decide), hst']) (decide_eq_false (fun h => hw3 (by rw [sO_6] at h; exact h.1))) (decide_eq_true ⟨h3, by rw [e]; exact hst⟩)
      rw [e] at hc ⊢
      rw [hc, show ∀ m, nI (m + 1) - 1 = nI m from fun m => nI_pred m]
    · rw [if_neg e]
      show S 306 i' = _
      rw [hC.std i' hi']
      refine congrArg nI (cnt_congr (fun t' ht' => ?_))
      by_cases e' : t' = t
      · rw [decide_eq_false (show ¬ (S 406 t' = 3 ∧ st P t' = i') from fun h => e (by rw [← h.2, e', hst])), decide_eq_false (show ¬ (sO S i t z v u w 406 t' = 3 ∧ st (pC P i (d * nn (S 302 i) + l) t a x y) t' = i') from fun h => hw3 (by rw [e', sO_6] at h; exact h.1))]
      · rw [sO_o e' 406 (by decide) (by decide), hst']
  · constructor
    · intro t' ht' h
      obtain ⟨e, h⟩ := ab t' h
      rw [sO_o e 414 (by decide) (by decide)]; exact hC.brd.1 t' ht' h
    · intro t1 t2 q1 q2 q3 q4
      obtain ⟨e1, f1⟩ := ab t1 q3
      obtain ⟨e2, f2⟩ := ab t2 q4
      rw [sO_o e1 414 (by decide) (by decide), sO_o e2 414 (by decide) (by decide)]
      exact hC.brd.2 t1 t2 q1 q2 f1 f2
  · intro i' j' hi' hj'
    by_cases e : i' = i ∧ j' = d * nn (S 302 i) + l
    · unfold chS; rw [if_pos e, e.1, e.2]; exact hlk
    · unfold chS; rw [if_neg e]
      have e14 : pC P i (d * nn (S 302 i) + l) t a x y 1400 i' j' = P 1400 i' j' := by
        show up3 P 1400 i (d * nn (S 302 i) + l) x 1400 i' j' = _
        by_cases e1 : i' = i
        · rw [e1, up3_j (fun e2 => e ⟨e1, e2⟩)]
        · rw [up3_i e1]
      rw [e14]
      refine linked_congr (fun t' ht' => ?_) (hC.lnk i' j' hi' hj')
      have hne : ∀ c, c ∈ A ++ t :: B → t' ≠ c := by
        intro c hc e'
        obtain ⟨g1, g2, g3, g4⟩ := (inA c).mp hc
        obtain ⟨f1, f2, f3, f4⟩ := (hC.mem i' j' t' hi' hj').mp ht'
        rw [e'] at f3 f4
        have hii : i' = i := by rw [← f3, g3]
        rw [hii] at f4
        obtain ⟨D, W, n, h1, h2, hh3, h4, e1, e2, e3, e4, b1, b2, b3, b4, b5, b6, hm⟩ := dims hC.ship hi
        have hj2 : j' < D * W := by
          have : nn (S 1499 i') = D * W := by rw [hii]; exact e4
          have hj'' : j' < nn (S 1499 i') := hj'
          omega
        have hj3 : d * nn (S 302 i) + l < D * W := by rw [e2]; rw [e1] at hd; rw [e2] at hl; exact jlt hd hl
        exact e ⟨hii, nI_inj (by omega) (by omega) (by rw [← f4, g4])⟩
      exact pC_o (hne a haA) (hne t (List.mem_append_right _ (List.mem_cons_self ..))) 0
  · intro i' j' t' hi' hj'
    have hold := hC.mem i' j' t' hi' hj'
    have core : t' ∈ chS ch i (d * nn (S 302 i) + l) (A ++ B) i' j' ↔ t' ∈ ch i' j' ∧ t' ≠ t := by
      unfold chS
      by_cases e : i' = i ∧ j' = d * nn (S 302 i) + l
      · rw [if_pos e, e.1, e.2, hch]; exact hsub t'
      · rw [if_neg e]
        refine ⟨fun h => ⟨h, fun e' => ?_⟩, fun h => h.1⟩
        obtain ⟨f1, f2, f3, f4⟩ := hold.mp h
        obtain ⟨g1, g2, g3, g4⟩ := (inA t).mp (List.mem_append_right _ (List.mem_cons_self ..))
        rw [e'] at f3 f4
        have hii : i' = i := by rw [← f3, g3]
        rw [hii] at f4
        obtain ⟨D, W, n, h1, h2, hh3, h4, e1, e2, e3, e4, b1, b2, b3, b4, b5, b6, hm⟩ := dims hC.ship hi
        have hj2 : j' < D * W := by
          have : nn (S 1499 i') = D * W := by rw [hii]; exact e4
          have hj'' : j' < nn (S 1499 i') := hj'
          omega
        have hj3 : d * nn (S 302 i) + l < D * W := by rw [e2]; rw [e1] at hd; rw [e2] at hl; exact jlt hd hl
        exact e ⟨hii, nI_inj (by omega) (by omega) (by rw [← f4, g4])⟩
    rw [core, hold]
    constructor
    · rintro ⟨⟨f1, f2, f3, f4⟩, e⟩
      rw [sO_o e 406 (by decide) (by decide), sO_o e 408 (by decide) (by decide), sO_o e 409 (by decide) (by decide)]
      exact ⟨f1, f2, f3, f4⟩
    · rintro ⟨f1, f2, f3, f4⟩
      obtain ⟨e, f2⟩ := ab t' f2
      rw [sO_o e 408 (by decide) (by decide), sO_o e 409 (by decide) (by decide)] at f4
      exact ⟨⟨f1, f2, f3, f4⟩, e⟩
  · intro t' ht' h
    obtain ⟨e, h⟩ := ab t' h
    rw [sO_o e 408 (by decide) (by decide), sO_o e 409 (by decide) (by decide)]
    exact hC.dl t' ht' h
end LEAVE
