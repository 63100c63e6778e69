/-! a ticket boards: the invariants of the class -/
section BOARD
variable {k ns nc nv nt tn bn : Nat} {ch : Nat → Nat → List Nat} {S : TS} {P : TP} {N : TN} {M : TS}
def sP (S : TS) (i t : Nat) (d l T : Int32) : TS := up (up (up (up S 408 t d) 409 t l) 410 t T) 306 i (S 306 i + 1)
def pP (P : TP) (i j t a : Nat) (x y : Option Nat) : TP := up3 (up3 (up3 P 415 t 0 none) 1400 i j x) 415 a 0 y
theorem lastO_link {b : Nat → Nat → Option Nat} : ∀ (A : List Nat) (y r : Option Nat) (a : Nat), linked b r A → A ≠ [] → lastO y A = some a → b a 0 = none
  | [], _, _, _, _, h, _ => absurd rfl h
  | [x], _, _, a, h, _, e => by
    have e : x = a := Option.some.inj e
    rw [← e]; exact h.2
  | x :: z :: A, _, _, a, h, _, e => lastO_link (z :: A) (some x) _ a h.2 (by simp) e
theorem pl5 (hC : CI k ns nc nv nt tn ch S P N) {i d l t : Nat} (hi : i < ns) (hd : d < nn (S 301 i)) (hl : l < nn (S 302 i)) (h3 : ¬ S 406 t = 3) : ∃ x a y, f3_putInPlace S P i t (nI d) (nI l) (nI (tl S ch i d l)) = some (sP S i t (nI d) (nI l) (nI (tl S ch i d l)), pP P i (d * nn (S 302 i) + l) t a x y) ∧ (a = t ∨ a ∈ ch i (d * nn (S 302 i) + l)) ∧ linked (pP P i (d * nn (S 302 i) + l) t a x y 415) (pP P i (d * nn (S 302 i) + l) t a x y 1400 i (d * nn (S 302 i) + l)) (ch i (d * nn (S 302 i) + l) ++ [t]) := by
  obtain ⟨D, W, n, g1, g2, g3, g4, e1, e2, e3, e4, b1, b2, b3, b4, b5, b6, hm⟩ := dims hC.ship hi
  obtain ⟨k1, k2, k3, k4, k5, k6, k7⟩ := lane hC hi hd hl
  rw [e3] at k3
  have ht' : ∀ u ∈ ch i (d * nn (S 302 i) + l), u ≠ t := fun u hu e => h3 (by rw [← e]; exact ((chm hC hi hd hl u).mp hu).2.1)
  have hS3 : CI_ship ns (up (up (up S 408 t (nI d)) 409 t (nI l)) 410 t (nI (tl S ch i d l))) P := hC.ship
  have h8 : up (up (up S 408 t (nI d)) 409 t (nI l)) 410 t (nI (tl S ch i d l)) 408 t = nI d := by show up S 408 t (nI d) 408 t = _; rw [up_v]
  have h9 : up (up (up S 408 t (nI d)) 409 t (nI l)) 410 t (nI (tl S ch i d l)) 409 t = nI l := by show up (up S 408 t (nI d)) 409 t (nI l) 409 t = _; rw [up_v]
  have hnb : f3_nearestBow (up (up (up S 408 t (nI d)) 409 t (nI l)) 410 t (nI (tl S ch i d l))) P i (nI d) (nI l) = some (P 1400 i (d * nn (S 302 i) + l)) := nb hS3 hi hd hl
  have hna : f3_nextAhead (up (up (up S 408 t (nI d)) 409 t (nI l)) 410 t (nI (tl S ch i d l))) P i t = some (lastO none (ch i (d * nn (S 302 i) + l))) := by
    unfold f3_nextAhead
    rw [h8, h9, hnb, Option.bind_some]
    refine na15 (S := up (up (up S 408 t (nI d)) 409 t (nI l)) 410 t (nI (tl S ch i d l))) (fun w5 => some w5) (ch i (d * nn (S 302 i) + l)) [] FU none _ (by rw [List.append_nil]; exact k1) ?_ (fun b B' e => absurd e (by simp)) (by rw [FU_eq]; omega)
    intro a ha
    rw [up_v, up_i (ht' a ha)]
    show ¬ nI (tl S ch i d l) ≤ S 410 a
    obtain ⟨q, y1, y2, y3⟩ := ctg_ge k2 a ha
    obtain ⟨x, hx, x1, x2⟩ := k6 a ha
    rw [hx, nn_nI (by omega)] at y3
    have : tl S ch i d l = total (S 402) (ch i (d * nn (S 302 i) + l)) := rfl
    rw [y2, nI_leI (by omega) (by omega)]; omega
  unfold f3_putInPlace
  simp only [lt]
  rw [hna]
  simp only [Option.bind_some]
  cases hla : lastO none (ch i (d * nn (S 302 i) + l)) with
  | none =>
    have hA0 := lastO_none _ none hla
    rw [hA0] at k1
    have k1 : P 1400 i (d * nn (S 302 i) + l) = none := k1
    simp only [Option.elim_none]
    rw [hnb, k1, Option.bind_some]
    have hc : f3_chain (up (up (up S 408 t (nI d)) 409 t (nI l)) 410 t (nI (tl S ch i d l))) (up3 P 415 t 0 none) i t none (some t) = some (up (up (up S 408 t (nI d)) 409 t (nI l)) 410 t (nI (tl S ch i d l)), up3 (up3 P 415 t 0 none) 1400 i (d * nn (S 302 i) + l) (some t)) := by
      unfold f3_chain
      have hl1 : f3_hasLane (up (up (up S 408 t (nI d)) 409 t (nI l)) 410 t (nI (tl S ch i d l))) (up3 P 415 t 0 none) i (nI d) (nI l) = some 1 := hl1 hS3 hi hd hl
      rw [h8, h9, hl1]
      simp only [Option.elim_none, Option.bind_some, if_neg one_ne, lt]
      rw [show up3 P 415 t 0 none 307 i 0 = some i from (hC.ship i hi).2.1, Option.bind_some]
      show (ix (nI d * S 302 i + nI l) (S 1499 i).toNatClampNeg).bind _ = _
      have hj := jlt (by rw [e1] at hd; exact hd) (by rw [e2] at hl; exact hl)
      rw [g2, g4, pk_mul, nI_add, nI_clamp (by omega), ix_nI (by omega) (by omega), nn_nI (by omega)]; rfl
    rw [hc, b2_some]
    refine ⟨some t, t, none, ?_, Or.inl rfl, ?_⟩
    · unfold pP
      rw [up3_id (P := up3 (up3 P 415 t 0 none) 1400 i (d * nn (S 302 i) + l) (some t)) (c := 415) (i := t) (v := none) (by rw [up3_c (by decide), up3_v])]
      rfl
    · rw [hA0]
      refine ⟨?_, ?_⟩
      · show up3 (up3 P 415 t 0 none) 1400 i (d * nn (S 302 i) + l) (some t) 1400 i (d * nn (S 302 i) + l) = some t
        rw [up3_v]
      · show pP P i (d * nn (S 302 i) + l) t t (some t) none 415 t 0 = none
        unfold pP; rw [up3_v]
  | some a =>
    have ha : a ∈ ch i (d * nn (S 302 i) + l) := by
      rcases lastO_mem _ none a hla with ⟨q, -⟩ | q
      · exact absurd q (by simp)
      · exact q
    have hA0 : ch i (d * nn (S 302 i) + l) ≠ [] := fun e => by rw [e] at ha; exact absurd ha (by simp)
    have hat := ht' a ha
    have pa := lastO_link _ none _ a k1 hA0 hla
    simp only [Option.elim_some]
    rw [pa]
    have hc : f3_chain (up (up (up S 408 t (nI d)) 409 t (nI l)) 410 t (nI (tl S ch i d l))) (up3 P 415 t 0 none) i t (some a) (some t) = some (up (up (up S 408 t (nI d)) 409 t (nI l)) 410 t (nI (tl S ch i d l)), up3 (up3 P 415 t 0 none) 415 a 0 (some t)) := rfl
    rw [hc, b2_some]
    have hid : up3 (up3 P 415 t 0 none) 1400 i (d * nn (S 302 i) + l) (P 1400 i (d * nn (S 302 i) + l)) = up3 P 415 t 0 none := by
      funext c' i' j'
      by_cases q1 : c' = 1400
      · subst q1
        by_cases q2 : i' = i
        · subst q2
          by_cases q3 : j' = d * nn (S 302 i') + l
          · subst q3; rw [up3_v, up3_c (by decide)]
          · rw [up3_j q3]
        · rw [up3_i q2]
      · rw [up3_c q1]
    refine ⟨P 1400 i (d * nn (S 302 i) + l), a, some t, ?_, Or.inr ha, ?_⟩
    · unfold pP; rw [hid]; rfl
    · have e14 : pP P i (d * nn (S 302 i) + l) t a (P 1400 i (d * nn (S 302 i) + l)) (some t) 1400 i (d * nn (S 302 i) + l) = P 1400 i (d * nn (S 302 i) + l) := by
        show up3 (up3 P 415 t 0 none) 1400 i (d * nn (S 302 i) + l) (P 1400 i (d * nn (S 302 i) + l)) 1400 i (d * nn (S 302 i) + l) = _
        rw [up3_v]
      rw [e14]
      refine relink (b := P 415) (v := some t) (C := [t]) (a := a) _ [] none _ hA0 hla k4 (by rw [List.append_nil]; exact k1) ?_ ?_ ?_
      · refine ⟨rfl, ?_⟩
        show pP P i (d * nn (S 302 i) + l) t a (P 1400 i (d * nn (S 302 i) + l)) (some t) 415 t 0 = none
        unfold pP; rw [hid, up3_i (Ne.symm hat), up3_v]
      · unfold pP; rw [up3_v]
      · intro u hu hua
        unfold pP; rw [hid, up3_i hua, up3_i (ht' u hu)]
theorem contig_snoc {pl ln : Nat → Int32} {t : Nat} : ∀ {A : List Nat} {p : Nat}, contig pl ln p A → pl t = nI (p + total ln A) → contig pl ln p (A ++ [t])
  | [], p, _, h => ⟨h, trivial⟩
  | a :: A, p, h, h' => ⟨h.1, contig_snoc h.2 (by rw [h']; simp only [total]; rw [Nat.add_assoc])⟩
def sQ (S : TS) (i t s tn : Nat) (d l T x : Int32) : TS := up (up (up (sP S i t d l T) 406 t 3) 414 t (nI tn)) 208 s x
theorem sQ_o {i t s tn t' : Nat} {d l T x : Int32} (h : t' ≠ t) (c : Nat) (h1 : c ≠ 306) (h2 : c ≠ 208) : sQ S i t s tn d l T x c t' = S c t' := by
  unfold sQ sP; rw [up_c h2, up_i h, up_i h, up_c h1, up_i h, up_i h, up_i h]
theorem CI_board (hC : CI k ns nc nv nt tn ch S P N) (hn : tn + 1 ≤ 500 * k) (hk : k < 600) {i d l t s L : Nat} (hs : s < nv) (ht : t < nt) (e1 : sl P t = s) (hvs : vs P s = i) (h1 : S 204 s = 1) (h0 : ¬ S 206 s = 0) (h2 : S 406 t = 2) (hL : S 402 t = nI L) (hLb : 20 ≤ L ∧ L ≤ 250) (hd : d < nn (S 301 i)) (hl : l < nn (S 302 i)) (hfit : tl S ch i d l + L ≤ nn (S 303 i)) {x : Int32} (hx : x = 0 ∨ x = 1) {u : Option Nat} {a : Nat} {y : Option Nat} (ha : a = t ∨ a ∈ ch i (d * nn (S 302 i) + l)) (hlk : linked (pP P i (d * nn (S 302 i) + l) t a u y 415) (pP P i (d * nn (S 302 i) + l) t a u y 1400 i (d * nn (S 302 i) + l)) (ch i (d * nn (S 302 i) + l) ++ [t])) : CI k ns nc nv nt (tn + 1) (chS ch i (d * nn (S 302 i) + l) (ch i (d * nn (S 302 i) + l) ++ [t])) (up (sQ S i t s tn (nI d) (nI l) (nI (tl S ch i d l)) x) 511 0 (nI (tn + 1))) (up3 (pP P i (d * nn (S 302 i) + l) t a u y) 207 s 0 (some t)) N := by
  have hb := hC.nt4
  have hi : i < ns := by rw [← hvs]; exact hC.s3 hs
  have n3 : ¬ S 406 t = 3 := by rw [h2]; decide
  have h9 : S 411 t = -1 := (hC.tick t ht).2.2.2.2.2.2 n3 (by rw [h2]; decide)
  have hst : st P t = i := by unfold st; rw [e1]; exact hvs
  obtain ⟨D, W, n, g1, g2, g3, g4, e1', e2, e3, e4, b1, b2, b3, b4, b5, b6, hm⟩ := dims hC.ship hi
  obtain ⟨k1, k2, k3, k4, k5, k6, k7⟩ := lane hC hi hd hl
  have neq : ∀ t', S 406 t' = 3 → t' ≠ t := fun t' h e => n3 (by rw [← e]; exact h)
  have q6 : ∀ t', t' ≠ t → up (sQ S i t s tn (nI d) (nI l) (nI (tl S ch i d l)) x) 511 0 (nI (tn + 1)) 406 t' = S 406 t' := fun t' h => sQ_o (s := s) (tn := tn) (x := x) h 406 (by decide) (by decide)
  have q6t : up (sQ S i t s tn (nI d) (nI l) (nI (tl S ch i d l)) x) 511 0 (nI (tn + 1)) 406 t = 3 := by
    show up (sP S i t (nI d) (nI l) (nI (tl S ch i d l))) 406 t 3 406 t = 3; rw [up_v]
  have q8t : up (sQ S i t s tn (nI d) (nI l) (nI (tl S ch i d l)) x) 511 0 (nI (tn + 1)) 408 t = nI d := by
    show up S 408 t (nI d) 408 t = _; rw [up_v]
  have q9t : up (sQ S i t s tn (nI d) (nI l) (nI (tl S ch i d l)) x) 511 0 (nI (tn + 1)) 409 t = nI l := by
    show up (up S 408 t (nI d)) 409 t (nI l) 409 t = _; rw [up_v]
  have q10t : up (sQ S i t s tn (nI d) (nI l) (nI (tl S ch i d l)) x) 511 0 (nI (tn + 1)) 410 t = nI (tl S ch i d l) := by
    show up (up (up S 408 t (nI d)) 409 t (nI l)) 410 t (nI (tl S ch i d l)) 410 t = _; rw [up_v]
  have q14t : up (sQ S i t s tn (nI d) (nI l) (nI (tl S ch i d l)) x) 511 0 (nI (tn + 1)) 414 t = nI tn := by
    show up (up (sP S i t (nI d) (nI l) (nI (tl S ch i d l))) 406 t 3) 414 t (nI tn) 414 t = _; rw [up_v]
  have qo : ∀ c t', t' ≠ t → c ≠ 306 → c ≠ 208 → c ≠ 511 → up (sQ S i t s tn (nI d) (nI l) (nI (tl S ch i d l)) x) 511 0 (nI (tn + 1)) c t' = S c t' := fun c t' h h1 h2 h3 => by rw [up_c h3]; exact sQ_o h c h1 h2
  have old : ∀ t', up (sQ S i t s tn (nI d) (nI l) (nI (tl S ch i d l)) x) 511 0 (nI (tn + 1)) 406 t' = 3 → t' = t ∨ t' ≠ t ∧ S 406 t' = 3 := by
    intro t' h
    by_cases w : t' = t
    · exact Or.inl w
    · rw [q6 t' w] at h; exact Or.inr ⟨w, h⟩
  have hj : d * nn (S 302 i) + l < nn (S 1499 i) := by
    rw [e4, e2]; rw [e1'] at hd; rw [e2] at hl; exact jlt hd hl
  have hbr : ∀ t', t' < nt → S 406 t' = 3 → ∃ z, z < tn ∧ S 414 t' = nI z := hC.brd.1
  refine ⟨hC.cnt, hC.ship, hC.cab, hC.cabn, hC.sail, ?_, hC.one, ?_, ?_, ?_, ?_, ?_, ?_, ?_, ⟨up_v, hn⟩, ?_, ?_, ?_, ?_, ?_⟩
  · intro s' hs'
    obtain ⟨p1, p2, p3, p4⟩ := hC.how s' hs'
    refine ⟨p1, p2, p3, fun q => ?_⟩
    have q : S 206 s' = 0 := q
    by_cases w : s' = s
    · rw [w] at q; exact absurd q h0
    · rw [up3_i w]; exact p4 q
  · intro s' t' hs' hp
    by_cases w : s' = s
    · rw [w, up3_v] at hp
      have : t = t' := Option.some.inj hp
      subst this
      refine ⟨ht, q6t, by rw [w]; exact e1, by rw [w]; exact h1, ?_⟩
      show up (up (up (sP S i t (nI d) (nI l) (nI (tl S ch i d l))) 406 t 3) 414 t (nI tn)) 208 s x 208 s' = 0 ∨ up (up (up (sP S i t (nI d) (nI l) (nI (tl S ch i d l))) 406 t 3) 414 t (nI tn)) 208 s x 208 s' = 1 ∧ S 411 t = -1
      rw [w, up_v]
      rcases hx with h | h
      · exact Or.inl h
      · exact Or.inr ⟨h, h9⟩
    · rw [up3_i w] at hp
      obtain ⟨p1, p2, p3, p4, p5⟩ := hC.ramp s' t' hs' hp
      have w' := neq t' p2
      refine ⟨p1, by rw [q6 t' w']; exact p2, p3, p4, ?_⟩
      show up (up (up (sP S i t (nI d) (nI l) (nI (tl S ch i d l))) 406 t 3) 414 t (nI tn)) 208 s x 208 s' = 0 ∨ up (up (up (sP S i t (nI d) (nI l) (nI (tl S ch i d l))) 406 t 3) 414 t (nI tn)) 208 s x 208 s' = 1 ∧ S 411 t' = -1
      rw [up_i w]; exact p5
  · intro t' ht'
    obtain ⟨p1, p2, p3, p4, p5, p6, p7⟩ := hC.tick t' ht'
    refine ⟨p1, p2, p3, p4, p5, ?_, ?_⟩
    · by_cases w : t' = t
      · rw [w, q6t]; exact ⟨3, by decide, rfl⟩
      · rw [q6 t' w]; exact p6
    · by_cases w : t' = t
      · rw [w, q6t]; exact fun q => absurd rfl q
      · rw [q6 t' w]; exact p7
  · intro t' ht' h
    rcases old t' h with w | ⟨w, h⟩
    · rw [w]; show S 204 (sl P t) = 1; rw [e1]; exact h1
    · exact hC.ab t' ht' h
  · intro t' ht' h
    rcases old t' h with w | ⟨w, h⟩
    · rw [w]; exact Or.inl h9
    · exact hC.cb t' ht' h
  · intro c hc
    show S 102 c = 1 ↔ _
    rw [hC.tk c hc]
    have hn1 := hC.nc1
    constructor
    · rintro ⟨t', p1, p2, p3⟩; exact ⟨t', p1, by rw [q6 t' (neq t' p2)]; exact p2, p3⟩
    · rintro ⟨t', p1, p2, p3⟩
      have p3 : S 411 t' = nI c := p3
      rcases old t' p2 with w | ⟨w, h⟩
      · rw [w, h9] at p3; exact absurd p3.symm (nI_neg1 (by omega))
      · exact ⟨t', p1, h, p3⟩
  · intro t1 t2 p1 p2 p3 p4
    show S 411 t1 = S 411 t2 → ¬ S 411 t1 = -1 → t1 = t2
    intro p5 p6
    rcases old t1 p3 with w | ⟨w, h⟩
    · rw [w, h9] at p6; exact absurd rfl p6
    · rcases old t2 p4 with w' | ⟨w', h'⟩
      · rw [p5, w', h9] at p6; exact absurd rfl p6
      · exact hC.uq t1 t2 p1 p2 h h' p5 p6
  · intro i' hi'
    show up (up (up (up S 408 t (nI d)) 409 t (nI l)) 410 t (nI (tl S ch i d l))) 306 i (S 306 i + 1) 306 i' = _
    rw [up_eq]
    by_cases w : i' = i
    · rw [if_pos w, hC.std i hi, nI_1]
      refine congrArg nI ?_
      rw [w]
      refine (cnt_set (n := nt) (i := t) (p := fun t' => decide (S 406 t' = 3 ∧ st P t' = i)) (q := fun t' => decide (up (sQ S i t s tn (nI d) (nI l) (nI (tl S ch i d l)) x) 511 0 (nI (tn + 1)) 406 t' = 3 ∧ st P t' = i)) ht ?_ ?_ ?_).symm
      · intro t' p1 p2; rw [q6 t' p1]
      · exact decide_eq_false (fun q => n3 q.1)
      · exact decide_eq_true ⟨q6t, hst⟩
    · rw [if_neg w]
      show S 306 i' = _
      rw [hC.std i' hi']
      refine congrArg nI (cnt_congr (q := fun t' => decide (up (sQ S i t s tn (nI d) (nI l) (nI (tl S ch i d l)) x) 511 0 (nI (tn + 1)) 406 t' = 3 ∧ st P t' = i')) (fun t' _ => ?_))
      by_cases w' : t' = t
      · rw [decide_eq_false (show ¬ (S 406 t' = 3 ∧ st P t' = i') from fun q => neq t' q.1 w'), decide_eq_false (show ¬ (up (sQ S i t s tn (nI d) (nI l) (nI (tl S ch i d l)) x) 511 0 (nI (tn + 1)) 406 t' = 3 ∧ st P t' = i') from fun q => w (by rw [← q.2, w', hst]))]
      · rw [q6 t' w']
  · constructor
    · intro t' ht' h
      rcases old t' h with w | ⟨w, h⟩
      · rw [w, q14t]; exact ⟨tn, by omega, rfl⟩
      · rw [qo 414 t' w (by decide) (by decide) (by decide)]
        obtain ⟨z, p1, p2⟩ := hbr t' ht' h
        exact ⟨z, by omega, p2⟩
    · intro t1 t2 p1 p2 p3 p4 p5
      rcases old t1 p3 with w | ⟨w, h⟩ <;> rcases old t2 p4 with w' | ⟨w', h'⟩
      · rw [w, w']
      · rw [w, q14t, qo 414 t2 w' (by decide) (by decide) (by decide)] at p5
        obtain ⟨z, f1, f2⟩ := hbr t2 p2 h'
        rw [f2] at p5
        have := nI_inj (by omega) (by omega) p5; omega
      · rw [w', q14t, qo 414 t1 w (by decide) (by decide) (by decide)] at p5
        obtain ⟨z, f1, f2⟩ := hbr t1 p1 h
        rw [f2] at p5
        have := nI_inj (by omega) (by omega) p5; omega
      · rw [qo 414 t1 w (by decide) (by decide) (by decide), qo 414 t2 w' (by decide) (by decide) (by decide)] at p5
        exact hC.brd.2 t1 t2 p1 p2 h h' p5
  · intro i' j' hi' hj'
    by_cases e : i' = i ∧ j' = d * nn (S 302 i) + l
    · unfold chS; rw [if_pos e, e.1, e.2]; exact hlk
    · unfold chS; rw [if_neg e]
      have e14 : up3 (pP P i (d * nn (S 302 i) + l) t a u y) 207 s 0 (some t) 1400 i' j' = P 1400 i' j' := by
        show up3 (up3 P 415 t 0 none) 1400 i (d * nn (S 302 i) + l) u 1400 i' j' = _
        by_cases w1 : i' = i
        · rw [w1, up3_j (fun w2 => e ⟨w1, w2⟩)]; rfl
        · rw [up3_i w1]; rfl
      rw [e14]
      refine linked_congr (fun t' ht' => ?_) (hC.lnk i' j' hi' hj')
      obtain ⟨f1, f2, f3, f4⟩ := (hC.mem i' j' t' hi' hj').mp ht'
      have w1 := neq t' f2
      have w2 : t' ≠ a := by
        rcases ha with h | h
        · rw [h]; exact w1
        · intro e'
          obtain ⟨h1', h2', h3', h4', h5'⟩ := (chm hC hi hd hl a).mp h
          rw [e'] at f3 f4
          have hii : i' = i := by rw [← f3, h3']
          rw [hii, h4', h5', g2, pk_mul, nI_add] at f4
          have hj2 : j' < D * W := by
            have : nn (S 1499 i') = D * W := by rw [hii]; exact e4
            have hj'' : j' < nn (S 1499 i') := hj'
            omega
          have hj3 : d * W + l < D * W := by rw [e2] at hj; rw [e4] at hj; exact hj
          exact e ⟨hii, by rw [e2]; exact (nI_inj (by omega) (by omega) f4).symm⟩
      show up3 (up3 (up3 P 415 t 0 none) 1400 i (d * nn (S 302 i) + l) u) 415 a 0 y 415 t' 0 = _
      rw [up3_i w2, up3_c (by decide), up3_i w1]
  · intro i' j' t' hi' hj'
    have hold := hC.mem i' j' t' hi' hj'
    by_cases w : t' = t
    · rw [w]
      have nm : t ∉ ch i' j' := fun h => n3 ((hC.mem i' j' t hi' hj').mp h).2.1
      have nm' : t ∉ ch i (d * nn (S 302 i) + l) := fun h => n3 ((hC.mem i _ t hi hj).mp h).2.1
      rw [q6t, q8t, q9t]
      constructor
      · intro h
        unfold chS at h
        by_cases e : i' = i ∧ j' = d * nn (S 302 i) + l
        · refine ⟨ht, rfl, by show st P t = i'; rw [hst, e.1], ?_⟩
          show nI d * S 302 i' + nI l = nI j'
          rw [e.1, e.2, g2, pk_mul, nI_add, nn_nI (by omega)]
        · rw [if_neg e] at h; exact absurd h nm
      · rintro ⟨-, -, p1, p2⟩
        have p1 : st P t = i' := p1
        have hii : i' = i := by rw [← p1, hst]
        have p2 : nI d * S 302 i' + nI l = nI j' := p2
        rw [hii, g2, pk_mul, nI_add] at p2
        have hj2 : j' < D * W := by
          have : nn (S 1499 i') = D * W := by rw [hii]; exact e4
          have hj'' : j' < nn (S 1499 i') := hj'
          omega
        have hj3 : d * W + l < D * W := by rw [e2] at hj; rw [e4] at hj; exact hj
        have hjj : j' = d * nn (S 302 i) + l := by rw [e2]; exact (nI_inj (by omega) (by omega) p2).symm
        unfold chS; rw [if_pos ⟨hii, hjj⟩]
        exact List.mem_append_right _ (List.mem_cons_self ..)
    · rw [q6 t' w, qo 408 t' w (by decide) (by decide) (by decide), qo 409 t' w (by decide) (by decide) (by decide)]
      have : t' ∈ chS ch i (d * nn (S 302 i) + l) (ch i (d * nn (S 302 i) + l) ++ [t]) i' j' ↔ t' ∈ ch i' j' := by
        unfold chS
        by_cases e : i' = i ∧ j' = d * nn (S 302 i) + l
        · rw [if_pos e, e.1, e.2, List.mem_append]
          exact ⟨fun h => h.elim id (fun h => absurd (List.mem_singleton.mp h) w), Or.inl⟩
        · rw [if_neg e]
      rw [this]
      exact hold
  · intro t' ht' h
    rcases old t' h with w | ⟨w, h⟩
    · rw [w, q8t, q9t]
      exact ⟨d, l, rfl, rfl, by show d < nn (S 301 (st P t)); rw [hst]; exact hd, by show l < nn (S 302 (st P t)); rw [hst]; exact hl⟩
    · rw [qo 408 t' w (by decide) (by decide) (by decide), qo 409 t' w (by decide) (by decide) (by decide)]
      exact hC.dl t' ht' h
  · intro i' j' hi' hj'
    have hctg : contig (S 410) (S 402) 0 (ch i' j') ∧ total (S 402) (ch i' j') ≤ nn (S 303 i') ∧ (ch i' j').Nodup ∧ (ch i' j').Pairwise (fun a b => S 414 a < S 414 b) := hC.ctg i' j' hi' hj'
    have ne : ∀ u ∈ ch i' j', u ≠ t := fun u hu => neq u ((hC.mem i' j' u hi' hj').mp hu).2.1
    obtain ⟨w1, w2, w3, w4⟩ := hctg
    have c1 : contig (up (sQ S i t s tn (nI d) (nI l) (nI (tl S ch i d l)) x) 511 0 (nI (tn + 1)) 410) (S 402) 0 (ch i' j') := contig_congr (fun u hu => ⟨qo 410 u (ne u hu) (by decide) (by decide) (by decide), rfl⟩) w1
    have c4 : (ch i' j').Pairwise (fun a b => up (sQ S i t s tn (nI d) (nI l) (nI (tl S ch i d l)) x) 511 0 (nI (tn + 1)) 414 a < up (sQ S i t s tn (nI d) (nI l) (nI (tl S ch i d l)) x) 511 0 (nI (tn + 1)) 414 b) := w4.imp_of_mem (fun {p q} hp hq r => by rw [qo 414 p (ne p hp) (by decide) (by decide) (by decide), qo 414 q (ne q hq) (by decide) (by decide) (by decide)]; exact r)
    by_cases e : i' = i ∧ j' = d * nn (S 302 i) + l
    · unfold chS
      rw [if_pos e]
      obtain ⟨ei, ej⟩ := e
      subst ei
      rw [ej] at ne w1 w2 w3 w4 c1 c4
      refine ⟨contig_snoc c1 (by rw [q10t, Nat.zero_add]; rfl), ?_, ?_, ?_⟩
      · rw [total_pre]
        show total (S 402) (ch i' (d * nn (S 302 i') + l)) + (nn (S 402 t) + 0) ≤ nn (S 303 i')
        rw [hL, nn_nI (by omega)]; exact hfit
      · rw [List.nodup_append]
        exact ⟨w3, List.nodup_cons.mpr ⟨by simp, List.nodup_nil⟩, fun p hp q hq => by rw [List.mem_singleton.mp hq]; exact ne p hp⟩
      · rw [List.pairwise_append]
        refine ⟨c4, List.pairwise_cons.mpr ⟨fun q hq => absurd hq (by simp), List.Pairwise.nil⟩, fun p hp q hq => ?_⟩
        rw [List.mem_singleton.mp hq, q14t, qo 414 p (ne p hp) (by decide) (by decide) (by decide)]
        obtain ⟨f1, f2, -⟩ := (chm hC hi hd hl p).mp hp
        obtain ⟨z, y1, y2⟩ := hbr p f1 f2
        rw [y2]; exact nI_lt y1 (by omega)
    · unfold chS
      rw [if_neg e]
      exact ⟨c1, w2, w3, c4⟩
end BOARD
