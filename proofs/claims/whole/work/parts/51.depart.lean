/-! depart -/
section DEPART
variable {k ns nc nv nt tn bn : Nat} {ch : Nat → Nat → List Nat} {S : TS} {P : TP} {N : TN} {M : TS}
theorem up_comm {S : TS} {c i c' i' : Nat} {v v' : Int32} (h : c ≠ c') : up (up S c i v) c' i' v' = up (up S c' i' v') c i v := by
  funext a b
  by_cases e1 : a = c
  · subst e1
    rw [up_c h, up_eq, up_eq, up_c h]
  · by_cases e2 : a = c'
    · subst e2; rw [up_eq, up_c e1, up_c e1, up_eq]
    · rw [up_c e2, up_c e1, up_c e1, up_c e2]
theorem sO_204 {s i t z : Nat} {v u w : Int32} : sO (up S 204 s 2) i t z v u w = up (sO S i t z v u w) 204 s 2 := by
  unfold sO sC
  rw [up_comm (c := 204) (c' := 408) (by decide), up_comm (c := 204) (c' := 409) (by decide), up_comm (c := 204) (c' := 410) (by decide), up_comm (c := 204) (c' := 306) (by decide), up_comm (c := 204) (c' := 102) (by decide), up_comm (c := 204) (c' := 411) (by decide), up_comm (c := 204) (c' := 406) (by decide)]
  rfl
theorem C19_howt (hC : C19 k ns nc nv nt tn ch S P N) {t : Nat} {v : Int32} (h0 : ¬ S 406 t = 3) (hv : ¬ v = 3) (h7 : ∃ h : Nat, h ≤ 7 ∧ v = nI h) (h6 : ¬ S 406 t = 6) : C19 k ns nc nv nt tn ch (up S 406 t v) P N := by
  have key := key406 (S := S) h0 hv
  refine ⟨hC.cnt, hC.ship, hC.cab, hC.cabn, hC.sail, hC.how, hC.one, ?_, ?_, ?_, ?_, ?_, ?_, ?_, hC.turn, ?_, hC.lnk, ?_, ?_⟩
  · unfold CI_ramp; simp only [key]; exact hC.ramp
  · intro t' ht'
    obtain ⟨a, b, c, d, e, f, f'⟩ := hC.tick t' ht'
    refine ⟨a, b, c, d, e, ?_, ?_⟩
    · by_cases e : t' = t
      · obtain ⟨h, h1, h2⟩ := h7
        exact ⟨h, h1, by rw [up_eq, if_pos e, h2]⟩
      · obtain ⟨h, h1, h2⟩ := f
        exact ⟨h, h1, by rw [up_eq, if_neg e, h2]⟩
    · by_cases e : t' = t
      · rw [e] at f' ⊢; exact fun _ _ => f' h0 h6
      · rw [up_i e]; exact f'
  · unfold CI_ab; simp only [key]; exact hC.ab
  · unfold CI_cb; simp only [key]; exact hC.cb
  · unfold CI_tk; simp only [key]; exact hC.tk
  · unfold CI_uq; simp only [key]; exact hC.uq
  · unfold CI_std; simp only [key]; exact hC.std
  · unfold CI_brd; simp only [key]; exact hC.brd
  · unfold CI_mem; simp only [key]; exact hC.mem
  · unfold CI_dl; simp only [key]; exact hC.dl
def CtgO (h ns : Nat) (ch : Nat → Nat → List Nat) (S : TS) : Prop := ∀ i j, i < ns → j < nn (S 1499 i) → i ≠ h → contig (S 410) (S 402) 0 (ch i j) ∧ total (S 402) (ch i j) ≤ nn (S 303 i) ∧ (ch i j).Nodup ∧ (ch i j).Pairwise (fun a b => S 414 a < S 414 b)
def CtgH (h : Nat) (ch : Nat → Nat → List Nat) (S : TS) : Prop := ∀ j, j < nn (S 1499 h) → (ch h j).Nodup ∧ (ch h j).Pairwise (fun a b => ¬ S 410 b ≤ S 410 a) ∧ (ch h j).length ≤ 400
def DI (k ns nc nv nt tn bn s h i : Nat) (ch : Nat → Nat → List Nat) (S : TS) (P : TP) (N : TN) (M : TS) : Prop := C19 k ns nc nv nt tn ch S P N ∧ MI ns nc nv nt tn bn (up S 204 s 2) P M ∧ CtgO h ns ch S ∧ CtgH h ch S ∧ S 204 s = 1 ∧ P 207 s 0 = none ∧ vs P s = h ∧ (∀ t, t < i → t < nt → sl P t = s → ¬ S 406 t = 3) ∧ Rex nv nt s S P ∧ (∀ t, t < nt → sl P t = s → ¬ (S 406 t = 1 ∨ S 406 t = 2))
/-- one ticket that is aboard ends -/
theorem depAb {s h t : Nat} (hs : s < nv) (ht : t < nt) (hD : DI k ns nc nv nt tn bn s h t ch S P N M) (e : sl P t = s) (h3 : S 406 t = 3) : ∃ ch' S' P' M', f5_endTicket S P t = some (S', P') ∧ ((f6_of M (nI t) 9).bind fun (v20) => (f6_comesOff M (nI t)).bind fun (M22 : TS) => (f6_put M22 (nI t) (9) v20).bind fun (M24 : TS) => f6_put M24 (nI t) (4) (6)) = some M' ∧ DI k ns nc nv nt tn bn s h (t + 1) ch' S' P' N M' := by
  obtain ⟨hC, hM, hO, hH, h1, hp, hvs, hdn, hR, h12⟩ := hD
  have hb := hC.cnt.2.1.2.2.2
  have hst : st P t = h := by unfold st; rw [e]; exact hvs
  have hi : h < ns := by rw [← hvs]; exact (hC.sail s hs).2.2.2
  obtain ⟨d, l, h8, h9, hd, hl⟩ := hC.dl t ht h3
  rw [hst] at hd hl
  obtain ⟨D, W, n, g1, g2, g3, g4, e1, e2, e3, e4, b1, b2, b3, b4, b5, b6, hm⟩ := dims hC.ship hi
  have hd' := hd
  have hl' := hl
  rw [e1] at hd'
  rw [e2] at hl'
  have hj0 := jlt hd' hl'
  have hj : d * nn (S 302 h) + l < nn (S 1499 h) := by rw [e4, e2]; exact hj0
  have hmem : t ∈ ch h (d * nn (S 302 h) + l) := (hC.mem h _ t hi hj).mpr ⟨ht, h3, hst, by rw [h8, h9, e2, g2, pk_mul, nI_add]⟩
  obtain ⟨A, B, hch⟩ := List.append_of_mem hmem
  obtain ⟨q1, q2, q3⟩ := hH _ hj
  rw [hch] at q1 q2 q3
  have hA : ∀ a ∈ A, ¬ S 410 t ≤ S 410 a := fun a ha => (List.pairwise_append.mp q2).2.2 a ha t (List.mem_cons_self ..)
  have hAl : A.length ≤ 400 := by simp only [List.length_append] at q3; omega
  have hlk := hC.lnk h _ hi hj
  rw [hch] at hlk
  obtain ⟨x, a, y, c1, c2, c3⟩ := clr5 hC.ship hi hd hl h8 h9 hlk q1 hA hAl
  have hfc : ∃ z v, f5_freeCabin (sC S h t) (pC P h (d * nn (S 302 h) + l) t a x y) t = some (up (sC S h t) 102 z v, pC P h (d * nn (S 302 h) + l) t a x y) ∧ ((S 411 t = -1 ∧ v = S 102 z) ∨ (S 411 t = nI z ∧ z < nc ∧ v = 0)) := by
    have hn := hC.cnt.2.1.2.1
    unfold f5_freeCabin
    rw [show sC S h t 411 t = S 411 t from rfl, show sC S h t 503 0 = nI nc from hC.cnt.1.2.1]
    rcases hC.cb t ht h3 with w | ⟨c, hc, w, -⟩
    · refine ⟨0, S 102 0, ?_, Or.inl ⟨w, rfl⟩⟩
      rw [w, within_f (Or.inl (by decide)), show up (sC S h t) 102 0 (S 102 0) = sC S h t from up_id (S := sC S h t)]; rfl
    · refine ⟨c, 0, ?_, Or.inr ⟨w, hc, rfl⟩⟩
      rw [w, within_t (nI_pos (by omega)) (by rw [sub1_lt (by omega)]; exact nI_ge hc (by omega)), Option.bind_some, if_neg one_ne, ix_nI (by omega) (by decide)]
      simp only [Option.bind_some, lt]
      rw [show pC P h (d * nn (S 302 h) + l) t a x y 800 0 c = some c from (hC.cab c hc).1]; rfl
  obtain ⟨z, v, f1, f2⟩ := hfc
  have hrr : ∀ s', s' < nv → ¬ P 207 s' 0 = some t := by
    intro s' hs' q
    obtain ⟨-, -, q', -⟩ := hC.ramp s' t hs' q
    rw [e] at q'
    rw [← q', hp] at q
    exact absurd q (by simp)
  have h19 := C19_sO hC ht h3 hst hi hd hl h8 h9 hch q1 c2 c3 hrr (z := z) (v := v) (u := S 411 t) (w := 6) f2 (q := 6) rfl (by decide) (by decide) (Or.inl rfl)
  have ne : ∀ i' j', i' < ns → j' < nn (S 1499 i') → ¬ (i' = h ∧ j' = d * nn (S 302 h) + l) → ∀ u ∈ ch i' j', u ≠ t := by
    intro i' j' hi' hj' hne u hu e'
    have hm := h19.mem i' j' t hi' hj'
    have : t ∈ chS ch h (d * nn (S 302 h) + l) (A ++ B) i' j' := by
      unfold chS; rw [if_neg hne]; rw [← e']; exact hu
    have := (hm.mp this).2.1
    rw [sO_6] at this; exact absurd this (by decide)
  have neAB : ∀ u ∈ A ++ B, u ≠ t := by
    intro u hu e'
    have hm := h19.mem h (d * nn (S 302 h) + l) t hi hj
    have : t ∈ chS ch h (d * nn (S 302 h) + l) (A ++ B) h (d * nn (S 302 h) + l) := by
      unfold chS; rw [if_pos ⟨rfl, rfl⟩]; rw [← e']; exact hu
    have := (hm.mp this).2.1
    rw [sO_6] at this; exact absurd this (by decide)
  refine ⟨chS ch h (d * nn (S 302 h) + l) (A ++ B), sO S h t z v (S 411 t) 6, pC P h (d * nn (S 302 h) + l) t a x y, up (up (up (up (up (up (up M 3500 (13 * t + 4) 2) 3500 (13 * t + 6) (-1)) 3500 (13 * t + 7) (-1)) 3500 (13 * t + 8) (-1)) 3500 (13 * t + 9) (-1)) 3500 (13 * t + 9) (S 411 t)) 3500 (13 * t + 4) 6, ?_, ?_, h19, ?_, ?_, ?_, h1, hp, hvs, ?_, ?_, ?_⟩
  · have h401 : P 401 t 0 = some (sl P t) := (hC.tick t ht).2.2.1
    have h201 : P 201 (sl P t) 0 = some h := by
      have := (hC.sail _ (hC.tick t ht).2.2.2.1).2.2.1
      rw [this]; exact congrArg some hst
    unfold f5_endTicket
    simp only [if_pos h3, lt, h401, Option.bind_some, h201]
    rw [c1, b2_some, f1, b2_some]
    show some (up (up (sC S h t) 102 z v) 406 t 6, _) = some (up (up (up (sC S h t) 102 z v) 411 t (S 411 t)) 406 t 6, _)
    rw [show up (up (sC S h t) 102 z v) 411 t (S 411 t) = up (sC S h t) 102 z v from up_id (S := up (sC S h t) 102 z v)]
  · unfold f6_comesOff
    rw [show f6_of M (nI t) 9 = some (S 411 t) from of9 hM hb ht, put4 (by omega)]
    simp only [Option.bind_some, put6 (show t < 400 by omega), put7 (show t < 400 by omega), put8 (show t < 400 by omega), put9 (show t < 400 by omega), put4 (show t < 400 by omega)]
  · rw [← sO_204]
    refine MI_sO hM (by decide) ?_ ?_ ?_
    · intro c i' hc; rw [up_c hc, up_c hc, up_c hc, up_c hc, up_c hc, up_c hc, up_c hc]
    · intro t' q h1 h2
      rw [up_i (by omega), up_i (by omega), up_i (by omega), up_i (by omega), up_i (by omega), up_i (by omega), up_i (by omega)]
    · intro q hq
      have old := hM.tick t q ht hq
      match q, hq with
      | 0, _ => rw [up_i (by omega), up_i (by omega), up_i (by omega), up_i (by omega), up_i (by omega), up_i (by omega), up_i (by omega), old]; rfl
      | 1, _ => rw [up_i (by omega), up_i (by omega), up_i (by omega), up_i (by omega), up_i (by omega), up_i (by omega), up_i (by omega), old]; rfl
      | 2, _ => rw [up_i (by omega), up_i (by omega), up_i (by omega), up_i (by omega), up_i (by omega), up_i (by omega), up_i (by omega), old]; rfl
      | 3, _ => rw [up_i (by omega), up_i (by omega), up_i (by omega), up_i (by omega), up_i (by omega), up_i (by omega), up_i (by omega), old]; rfl
      | 4, _ => rw [up_v]; exact sO_6.symm
      | 5, _ => rw [up_i (by omega), up_i (by omega), up_i (by omega), up_i (by omega), up_i (by omega), up_i (by omega), up_i (by omega), old]; rfl
      | 6, _ => rw [up_i (by omega), up_i (by omega), up_i (by omega), up_i (by omega), up_i (by omega), up_v]; show _ = up (up S 204 s 2) 408 t (-1) 408 t; rw [up_v]
      | 7, _ => rw [up_i (by omega), up_i (by omega), up_i (by omega), up_i (by omega), up_v]; show _ = up (up (up S 204 s 2) 408 t (-1)) 409 t (-1) 409 t; rw [up_v]
      | 8, _ => rw [up_i (by omega), up_i (by omega), up_i (by omega), up_v]; show _ = up (up (up (up S 204 s 2) 408 t (-1)) 409 t (-1)) 410 t (-1) 410 t; rw [up_v]
      | 9, _ => rw [up_i (by omega), up_v]; show _ = up (up (sC (up S 204 s 2) h t) 102 z v) 411 t (S 411 t) 411 t; rw [up_v]
      | 10, _ => rw [up_i (by omega), up_i (by omega), up_i (by omega), up_i (by omega), up_i (by omega), up_i (by omega), up_i (by omega), old]; rfl
      | 11, _ => rw [up_i (by omega), up_i (by omega), up_i (by omega), up_i (by omega), up_i (by omega), up_i (by omega), up_i (by omega), old]; rfl
      | 12, _ => rw [up_i (by omega), up_i (by omega), up_i (by omega), up_i (by omega), up_i (by omega), up_i (by omega), up_i (by omega), old]; rfl
  · intro i' j' hi' hj' hne
    obtain ⟨w1, w2, w3, w4⟩ := hO i' j' hi' hj' hne
    have hx : ¬ (i' = h ∧ j' = d * nn (S 302 h) + l) := fun q => hne q.1
    have nn' := ne i' j' hi' hj' hx
    unfold chS; rw [if_neg hx]
    refine ⟨contig_congr (fun u hu => ⟨sO_o (nn' u hu) 410 (by decide) (by decide), sO_o (nn' u hu) 402 (by decide) (by decide)⟩) w1, ?_, w3, ?_⟩
    · rw [total_congr (fun u hu => sO_o (nn' u hu) 402 (by decide) (by decide))]; exact w2
    · exact w4.imp_of_mem (fun {p q} hp hq r => by rw [sO_o (nn' p hp) 414 (by decide) (by decide), sO_o (nn' q hq) 414 (by decide) (by decide)]; exact r)
  · intro j' hj'
    by_cases hx : h = h ∧ j' = d * nn (S 302 h) + l
    · unfold chS; rw [if_pos hx]
      have hsubl : List.Sublist (A ++ B) (A ++ t :: B) := List.Sublist.append_left (List.sublist_cons_self t B) A
      refine ⟨q1.sublist hsubl, ?_, ?_⟩
      · exact (q2.sublist hsubl).imp_of_mem (fun {p q} hp hq r => by rw [sO_o (neAB p hp) 410 (by decide) (by decide), sO_o (neAB q hq) 410 (by decide) (by decide)]; exact r)
      · have := hsubl.length_le; omega
    · have nn' := ne h j' hi hj' hx
      obtain ⟨w1, w2, w3⟩ := hH j' hj'
      unfold chS; rw [if_neg hx]
      exact ⟨w1, w2.imp_of_mem (fun {p q} hp hq r => by rw [sO_o (nn' p hp) 410 (by decide) (by decide), sO_o (nn' q hq) 410 (by decide) (by decide)]; exact r), w3⟩
  · intro t' h1' h2' h3'
    by_cases w : t' = t
    · rw [w, sO_6]; decide
    · rw [sO_o w 406 (by decide) (by decide)]; exact hdn t' (by omega) h2' h3'
  · intro s' hs' hne w1 w2
    obtain ⟨t', y1, y2, y3⟩ := hR s' hs' hne w1 w2
    have y2' : sl P t' = s' := y2
    refine ⟨t', y1, y2, ?_⟩
    have w : t' ≠ t := fun w => hne (by rw [← y2', w, e])
    rw [sO_o w 406 (by decide) (by decide)]; exact y3
  · intro t' h1' h2'
    by_cases w : t' = t
    · rw [w, sO_6]; decide
    · rw [sO_o w 406 (by decide) (by decide)]; exact h12 t' h1' h2'
end DEPART
