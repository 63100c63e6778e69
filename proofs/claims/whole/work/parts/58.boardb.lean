/-! a ticket boards: both sides -/
section BOARDB
variable {k ns nc nv nt tn bn : Nat} {ch : Nat → Nat → List Nat} {S : TS} {P : TP} {N : TN} {M : TS}
def mQ (M : TS) (t s bn : Nat) (d l T x : Int32) : TS := up (up (up (up (up (up (up (up M 3500 (13 * t + 4) 3) 3500 (13 * t + 6) d) 3500 (13 * t + 7) l) 3500 (13 * t + 8) T) 3600 t (nI bn)) 625 0 (nI bn + 1)) 3200 s (nI t)) 3300 s x
theorem MI_board (hC : CI k ns nc nv nt tn ch S P N) (hM : MI ns nc nv nt tn bn S P M) (hk : k < 600) {i j t s a : Nat} (hs : s < nv) (ht : t < nt) (h2 : S 406 t = 2) {d l T x y : Int32} (hy : y = if x = 0 then 1 else 0) {u w : Option Nat} : MI ns nc nv nt (tn + 1) (bn + 1) (up (sQ S i t s tn d l T x) 511 0 (nI (tn + 1))) (up3 (pP P i j t a u w) 207 s 0 (some t)) (up (mQ M t s bn d l T y) 624 0 (nI (tn + 1))) := by
  have htn := hC.turn.2
  have hbt := hM.turn.2.2
  have n3 : ¬ S 406 t = 3 := by rw [h2]; decide
  have q6t : sQ S i t s tn d l T x 406 t = 3 := by
    show up (sP S i t d l T) 406 t 3 406 t = 3; rw [up_v]
  have q14t : sQ S i t s tn d l T x 414 t = nI tn := by
    show up (up (sP S i t d l T) 406 t 3) 414 t (nI tn) 414 t = _; rw [up_v]
  have old : ∀ t', sQ S i t s tn d l T x 406 t' = 3 → t' = t ∨ t' ≠ t ∧ S 406 t' = 3 := by
    intro t' h
    by_cases w : t' = t
    · exact Or.inl w
    · rw [sQ_o w 406 (by decide) (by decide)] at h; exact Or.inr ⟨w, h⟩
  have mo : ∀ c i', c ≠ 3500 → c ≠ 3600 → c ≠ 625 → c ≠ 3200 → c ≠ 3300 → c ≠ 624 → up (mQ M t s bn d l T y) 624 0 (nI (tn + 1)) c i' = M c i' := by
    intro c i' a1 a2 a3 a4 a5 a6
    unfold mQ
    rw [up_c a6, up_c a5, up_c a4, up_c a3, up_c a2, up_c a1, up_c a1, up_c a1, up_c a1]
  refine ⟨hM.cnt, hM.ship, hM.cab, hM.sail, hM.how, hM.off, ?_, ?_, ?_, ?_, hM.log, ?_⟩
  · intro s' hs'
    obtain ⟨p1, p2⟩ := hM.ramp s' hs'
    show up M 3200 s (nI t) 3200 s' = oI (up3 (pP P i j t a u w) 207 s 0 (some t) 207 s' 0) ∧ (¬ up3 (pP P i j t a u w) 207 s 0 (some t) 207 s' 0 = none → up M 3300 s y 3300 s' = if up (up (up (sP S i t d l T) 406 t 3) 414 t (nI tn)) 208 s x 208 s' = 0 then 1 else 0)
    by_cases e : s' = s
    · rw [e, up_v, up_v, up_v, up3_v]
      exact ⟨rfl, fun _ => hy⟩
    · rw [up_i e, up_i e, up_i e, up3_i e]
      exact ⟨p1, p2⟩
  · intro t' q ht' hq
    have old := hM.tick t' q ht' hq
    show up (up (up (up M 3500 (13 * t + 4) 3) 3500 (13 * t + 6) d) 3500 (13 * t + 7) l) 3500 (13 * t + 8) T 3500 (13 * t' + q) = _
    by_cases e : t' = t
    · subst e
      match q, hq with
      | 0, _ => rw [up_i (by omega), up_i (by omega), up_i (by omega), up_i (by omega), old]; rfl
      | 1, _ => rw [up_i (by omega), up_i (by omega), up_i (by omega), up_i (by omega), old]; rfl
      | 2, _ => rw [up_i (by omega), up_i (by omega), up_i (by omega), up_i (by omega), old]; rfl
      | 3, _ => rw [up_i (by omega), up_i (by omega), up_i (by omega), up_i (by omega), old]; rfl
      | 4, _ => rw [up_i (by omega), up_i (by omega), up_i (by omega), up_v]; exact q6t.symm
      | 5, _ => rw [up_i (by omega), up_i (by omega), up_i (by omega), up_i (by omega), old]; rfl
      | 6, _ => rw [up_i (by omega), up_i (by omega), up_v]; show _ = up S 408 t' d 408 t'; rw [up_v]
      | 7, _ => rw [up_i (by omega), up_v]; show _ = up (up S 408 t' d) 409 t' l 409 t'; rw [up_v]
      | 8, _ => rw [up_v]; show _ = up (up (up S 408 t' d) 409 t' l) 410 t' T 410 t'; rw [up_v]
      | 9, _ => rw [up_i (by omega), up_i (by omega), up_i (by omega), up_i (by omega), old]; rfl
      | 10, _ => rw [up_i (by omega), up_i (by omega), up_i (by omega), up_i (by omega), old]; rfl
      | 11, _ => rw [up_i (by omega), up_i (by omega), up_i (by omega), up_i (by omega), old]; rfl
      | 12, _ => rw [up_i (by omega), up_i (by omega), up_i (by omega), up_i (by omega), old]; rfl
    · rw [up_i (by omega), up_i (by omega), up_i (by omega), up_i (by omega), old]
      have so : ∀ c, c ≠ 306 → c ≠ 208 → sQ S i t s tn d l T x c t' = S c t' := fun c h1 h2 => sQ_o e c h1 h2
      match q, hq with
      | 0, _ => rfl
      | 1, _ => exact (so 402 (by decide) (by decide)).symm
      | 2, _ => exact (so 403 (by decide) (by decide)).symm
      | 3, _ => exact (so 404 (by decide) (by decide)).symm
      | 4, _ => exact (so 406 (by decide) (by decide)).symm
      | 5, _ => exact (so 407 (by decide) (by decide)).symm
      | 6, _ => exact (so 408 (by decide) (by decide)).symm
      | 7, _ => exact (so 409 (by decide) (by decide)).symm
      | 8, _ => exact (so 410 (by decide) (by decide)).symm
      | 9, _ => exact (so 411 (by decide) (by decide)).symm
      | 10, _ => exact (so 405 (by decide) (by decide)).symm
      | 11, _ => exact (so 412 (by decide) (by decide)).symm
      | 12, _ => exact (so 413 (by decide) (by decide)).symm
  · refine ⟨up_v, ?_, by omega⟩
    show up (up (up (up (up (up M 3500 (13 * t + 4) 3) 3500 (13 * t + 6) d) 3500 (13 * t + 7) l) 3500 (13 * t + 8) T) 3600 t (nI bn)) 625 0 (nI bn + 1) 625 0 = _
    rw [up_v, nI_1]
  · have m36 : ∀ t', up (mQ M t s bn d l T y) 624 0 (nI (tn + 1)) 3600 t' = if t' = t then nI bn else M 3600 t' := by
      intro t'
      show up M 3600 t (nI bn) 3600 t' = _
      rw [up_eq]
    have q14 : ∀ t', t' ≠ t → up (sQ S i t s tn d l T x) 511 0 (nI (tn + 1)) 414 t' = S 414 t' := fun t' h => sQ_o (s := s) (tn := tn) (x := x) h 414 (by decide) (by decide)
    have q14t' : up (sQ S i t s tn d l T x) 511 0 (nI (tn + 1)) 414 t = nI tn := q14t
    constructor
    · intro t' ht' h
      rw [m36]
      rcases old t' h with e | ⟨e, h⟩
      · rw [if_pos e]; exact ⟨bn, by omega, rfl⟩
      · rw [if_neg e]
        obtain ⟨z, p1, p2⟩ := hM.brd.1 t' ht' h
        exact ⟨z, by omega, p2⟩
    · intro t1 t2 p1 p2 p3 p4
      rw [m36, m36]
      rcases old t1 p3 with e | ⟨e, h⟩ <;> rcases old t2 p4 with e' | ⟨e', h'⟩
      · rw [e, e', if_pos rfl]
        exact ⟨fun q => False.elim (Int32.lt_irrefl q), fun q => False.elim (Int32.lt_irrefl q)⟩
      · rw [e, if_pos rfl, if_neg e', q14t', q14 t2 e']
        obtain ⟨z, f1, f2⟩ := hC.brd.1 t2 p2 h'
        obtain ⟨z', f3, f4⟩ := hM.brd.1 t2 p2 h'
        rw [f2, f4, nI_ltI (by omega) (by omega), nI_ltI (by omega) (by omega)]; omega
      · rw [e', if_pos rfl, if_neg e, q14t', q14 t1 e]
        obtain ⟨z, f1, f2⟩ := hC.brd.1 t1 p1 h
        obtain ⟨z', f3, f4⟩ := hM.brd.1 t1 p1 h
        rw [f2, f4, nI_ltI (by omega) (by omega), nI_ltI (by omega) (by omega)]; omega
      · rw [if_neg e, if_neg e', q14 t1 e, q14 t2 e']
        exact hM.brd.2 t1 t2 p1 p2 h h'
  · intro s' hs'
    obtain ⟨p1, p2, p3, p4⟩ := hM.new s' hs'
    refine ⟨p1, p2, ?_, p4⟩
    show up M 3300 s y 3300 s' = 0
    rw [up_i (by omega)]; exact p3
theorem actBoard (hk : k < 600) {t s : Nat} (hC : CI k ns nc nv nt tn ch S P N) (hM : MI ns nc nv nt tn bn S P M) (hn : tn + 1 ≤ 500 * k) (hR : Rex nv nt s S P) (ht : t < nt) (hs : s < nv) (e1 : sl P t = s) (h2 : S 406 t = 2) (h1 : S 204 s = 1) (h0 : ¬ S 206 s = 0) : Act k ns nc nv nt tn s N S (f5_doRampTurn S P s t) (b2 (f6_boards M (nI t) (nI s)) fun (v18) (M19 : TS) => if v18 = 0 then ((f6_put M19 (nI t) (4) (4)).bind fun (M21 : TS) => f6_write M21 (2) (nI t) (nI s)) else ((f6_of (up M19 3200 s (nI t)) (nI t) (3)).bind fun (v27) => f6_write (up (up M19 3200 s (nI t)) 3300 s (if v27 ≤ 0 then (1) else (0))) (1) (nI t) (nI s))) := by
  have hb := hC.nt4
  have hv := hC.nv6
  have hns := hC.ns1
  have hi := hC.s3 hs
  have n3 : ¬ S 406 t = 3 := by rw [h2]; decide
  obtain ⟨L, hL, hLb⟩ := (hC.tick t ht).2.2.2.2.1
  obtain ⟨D, W, n, g1, g2, g3, g4, eD, eW, e3, e4, b1, b2', b3', b4', b5, b6, hm⟩ := dims hC.ship hi
  obtain ⟨b, M', hB, hsc, o5, o6⟩ := outer hC hi eD eW hs rfl h1 ht hL hLb (fun (w12) (w13) =>
  if w12 = (-1) then
  (some ((0), S, P))
  else
  ((f3_firstGap S P (vs P s) w12 w13 (S 402 t)).bind fun (v14) =>
  b2 (f3_putInPlace S P (vs P s) t w12 w13 v14) fun (S16 : TS) (P17 : TP) =>
  some ((1), S16, P17))) (fun (M15 : TS) (w16) (w17) =>
  if w16 = (-1) then
  (some ((0), M15))
  else
  ((f6_put M15 (nI t) (4) (3)).bind fun (M18 : TS) =>
  (ix (nI (vs P s)) 12).bind fun (j20 : Nat) =>
  if (M18 2100 j20) = 0 then none else
  (f6_put M18 (nI t) (6) (w16 / (M18 2100 j20))).bind fun (M21 : TS) =>
  (ix (nI (vs P s)) 12).bind fun (j23 : Nat) =>
  if (M21 2100 j23) = 0 then none else
  (f6_put M21 (nI t) (7) (w16 - w16 / (M21 2100 j23) * (M21 2100 j23))).bind fun (M24 : TS) =>
  (f6_put M24 (nI t) (8) w17).bind fun (M26 : TS) =>
  (ix (nI t) 400).bind fun (j28 : Nat) =>
  lt (up M26 3600 j28 (M26 625 0)) fun (M29 : TS) =>
  lt (up M29 625 0 ((M29 625 0) + (1))) fun (M30 : TS) =>
  some ((1), M30))) D 0 (by omega) FU ((5999 - D * W) + 1) M none (by rw [FU_eq]; omega) hM (fun d l e => absurd e (by simp))
  have hM' := MI_scr hM hsc
  have fu : (5999 - D * W) + 1 + D * W = FU := by rw [FU_eq]; omega
  rw [fu, Nat.zero_mul] at o6
  have x5 : f3_placeByDeckRule S P (vs P s) t = (if bd b = (-1) then
  (some ((0), S, P))
  else
  ((f3_firstGap S P (vs P s) (bd b) (bl b) (S 402 t)).bind fun (v14) =>
  b2 (f3_putInPlace S P (vs P s) t (bd b) (bl b) v14) fun (S16 : TS) (P17 : TP) =>
  some ((1), S16, P17))) := o5
  have x6 : f6_boards M (nI t) (nI s) = (if bj W b = (-1) then
  (some ((0), M'))
  else
  ((f6_put M' (nI t) (4) (3)).bind fun (M18 : TS) =>
  (ix (nI (vs P s)) 12).bind fun (j20 : Nat) =>
  if (M18 2100 j20) = 0 then none else
  (f6_put M18 (nI t) (6) (bj W b / (M18 2100 j20))).bind fun (M21 : TS) =>
  (ix (nI (vs P s)) 12).bind fun (j23 : Nat) =>
  if (M21 2100 j23) = 0 then none else
  (f6_put M21 (nI t) (7) (bj W b - bj W b / (M21 2100 j23) * (M21 2100 j23))).bind fun (M24 : TS) =>
  (f6_put M24 (nI t) (8) (bg S ch (vs P s) b)).bind fun (M26 : TS) =>
  (ix (nI t) 400).bind fun (j28 : Nat) =>
  lt (up M26 3600 j28 (M26 625 0)) fun (M29 : TS) =>
  lt (up M29 625 0 ((M29 625 0) + (1))) fun (M30 : TS) =>
  some ((1), M30))) := by
    unfold f6_boards
    rw [ix_nI (show s < 60 by omega) (by decide), Option.bind_some, (hM.sail s hs).1]
    refine Eq.trans o6 ?_
    rw [f6_boards_19, ix_nI (show vs P s < 12 by omega) (by decide)]
    simp only [Option.bind_some, (hM'.ship _ hi).1, (hM'.ship _ hi).2.1, g1, g2]
    rw [pk_mul, if_pos (Int32.le_refl _)]
  unfold f5_doRampTurn
  simp only [lt, hC.s2 hs, Option.bind_some]
  rw [x5, x6]
  cases b with
  | none =>
    rw [if_pos (show bd none = -1 from rfl), if_pos (show bj W none = -1 from rfl), b3_some, b2_some, if_pos rfl, if_pos rfl, put4 (by omega), Option.bind_some]
    obtain ⟨S', M2, f1, f2, f3, f4, f5⟩ := wlog1 2 hk (CI_howt hC n3 (v := 4) (by decide) ⟨4, by decide, rfl⟩ (by rw [h2]; decide)) (MI_howt hM' n3 (v := 4) (by decide)) hn ht hs
    refine ⟨bn, ch, S', P, M2, ?_, f2, f3, f4, ?_, ?_, ?_⟩
    · rw [f1]; rfl
    · refine rex_log (S := up S 406 t 4) ?_ f5
      intro s' hs' e q1 q2
      obtain ⟨t', a, b, c⟩ := hR s' hs' e q1 q2
      refine ⟨t', a, b, ?_⟩
      rw [up_eq]; split
      · decide
      · exact c
    · rw [f5 204 s (by decide) (by decide)]; rfl
    · rw [f5 206 s (by decide) (by decide)]; rfl
  | some dl =>
    obtain ⟨d, l⟩ := dl
    obtain ⟨hd, hl, hfit⟩ := hB d l rfl
    have hdW : d < D := by rw [← eD]; exact hd
    have hlW : l < W := by rw [← eW]; exact hl
    have hj := jlt hdW hlW
    have hgap := gap5 hC hi hd hl (c := L) (by omega)
    rw [if_pos (show total (S 402) (ch (vs P s) (d * nn (S 302 (vs P s)) + l)) + L ≤ nn (S 303 (vs P s)) from hfit)] at hgap
    obtain ⟨u, a, w, p1, p2, p3⟩ := pl5 hC hi hd hl n3 (i := vs P s)
    rw [if_neg (show ¬ bd (some (d, l)) = -1 from nI_neg1 (by omega)), if_neg (show ¬ bj W (some (d, l)) = -1 from nI_neg1 (show d * W + l < 2 ^ 31 by omega)), show bd (some (d, l)) = nI d from rfl, show bl (some (d, l)) = nI l from rfl, hL, hgap, Option.bind_some]
    rw [show f3_putInPlace S P (vs P s) t (nI d) (nI l) (nI (total (S 402) (ch (vs P s) (d * nn (S 302 (vs P s)) + l)))) = _ from p1, b2_some, b3_some, if_neg one_ne]
    have hdiv : (d * W + l) / W = d := by rw [Nat.mul_comm, Nat.mul_add_div (by omega), Nat.div_eq_of_lt hlW, Nat.add_zero]
    have hmod : (d * W + l) % W = l := by rw [Nat.mul_comm, Nat.mul_add_mod, Nat.mod_eq_of_lt hlW]
    have h21 : M' 2100 (vs P s) = nI W := by rw [(hM'.ship _ hi).2.1, g2]
    have nW : ¬ nI W = 0 := nI_ne0 (by omega) (by omega)
    rw [put4 (by omega), Option.bind_some, ix_nI (show vs P s < 12 by omega) (by decide), ix_nI (show t < 400 by omega) (by decide)]
    simp only [Option.bind_some]
    rw [show up M' 3500 (13 * t + 4) 3 2100 (vs P s) = nI W from h21, if_neg nW, show bj W (some (d, l)) = nI (d * W + l) from rfl, pk_div (by omega) (by omega) (by omega), hdiv, put6 (by omega), Option.bind_some]
    rw [show up (up M' 3500 (13 * t + 4) 3) 3500 (13 * t + 6) (nI d) 2100 (vs P s) = nI W from h21, if_neg nW, pk_rem (a := d * W + l) (d := W) (by omega) (by omega) (by omega), hmod, put7 (by omega), Option.bind_some, show bg S ch (vs P s) (some (d, l)) = nI (tl S ch (vs P s) d l) from rfl, put8 (by omega), Option.bind_some]
    have h625 : up (up (up (up M' 3500 (13 * t + 4) 3) 3500 (13 * t + 6) (nI d)) 3500 (13 * t + 7) (nI l)) 3500 (13 * t + 8) (nI (tl S ch (vs P s) d l)) 625 0 = nI bn := hM'.turn.2.1
    rw [h625, b2_some, if_neg one_ne]
    have h625' : up (up (up (up (up M' 3500 (13 * t + 4) 3) 3500 (13 * t + 6) (nI d)) 3500 (13 * t + 7) (nI l)) 3500 (13 * t + 8) (nI (tl S ch (vs P s) d l))) 3600 t (nI bn) 625 0 = nI bn := hM'.turn.2.1
    rw [h625']
    have hof : f6_of (up (up (up (up (up (up (up M' 3500 (13 * t + 4) 3) 3500 (13 * t + 6) (nI d)) 3500 (13 * t + 7) (nI l)) 3500 (13 * t + 8) (nI (tl S ch (vs P s) d l))) 3600 t (nI bn)) 625 0 (nI bn + 1)) 3200 s (nI t)) (nI t) 3 = some (S 404 t) := by
      rw [ofa3 (by omega)]
      show some (up (up (up (up M' 3500 (13 * t + 4) 3) 3500 (13 * t + 6) (nI d)) 3500 (13 * t + 7) (nI l)) 3500 (13 * t + 8) (nI (tl S ch (vs P s) d l)) 3500 (13 * t + 3)) = _
      rw [up_i (by omega), up_i (by omega), up_i (by omega), up_i (by omega)]
      exact congrArg some (hM'.tick t 3 ht (by decide))
    rw [hof, Option.bind_some]
    have s404 : up (up (sP S (vs P s) t (nI d) (nI l) (nI (tl S ch (vs P s) d l))) 406 t 3) 414 t (up (sP S (vs P s) t (nI d) (nI l) (nI (tl S ch (vs P s) d l))) 406 t 3 511 0) 404 t = S 404 t := rfl
    have s511 : up (sP S (vs P s) t (nI d) (nI l) (nI (tl S ch (vs P s) d l))) 406 t 3 511 0 = nI tn := hC.turn.1
    rw [s404, s511]
    have hx01 : (if S 404 t ≤ 0 then (0 : Int32) else 1) = 0 ∨ (if S 404 t ≤ 0 then (0 : Int32) else 1) = 1 := by
      split
      · exact Or.inl rfl
      · exact Or.inr rfl
    have hxy : (if S 404 t ≤ 0 then (1 : Int32) else 0) = if (if S 404 t ≤ 0 then (0 : Int32) else 1) = 0 then 1 else 0 := by
      by_cases g : S 404 t ≤ 0
      · rw [if_pos g, if_pos g, if_pos rfl]
      · rw [if_neg g, if_neg g, if_neg one_ne]
    rw [if_pos hx01]
    generalize (if S 404 t ≤ 0 then (0 : Int32) else 1) = x at hx01 hxy ⊢
    generalize (if S 404 t ≤ 0 then (1 : Int32) else 0) = y at hxy ⊢
    have hCB := CI_board hC hn hk hs ht e1 rfl h1 h0 h2 hL hLb hd hl hfit hx01 p2 p3
    have hMB := MI_board hC hM' hk (i := vs P s) (j := d * nn (S 302 (vs P s)) + l) (a := a) hs ht h2 (d := nI d) (l := nI l) (T := nI (tl S ch (vs P s) d l)) hxy (u := u) (w := w)
    obtain ⟨S', M2, f1, f2, f3, f4, f5, -⟩ := wlog 1 hk hCB hMB hC.turn.1 hM'.turn.1 ht hs
    refine ⟨bn + 1, _, S', _, M2, ?_, f2, f3, f4, ?_, ?_, ?_⟩
    · show b2 (f5_writeLog (sQ S (vs P s) t s tn (nI d) (nI l) (nI (tl S ch (vs P s) d l)) x) (up3 (pP P (vs P s) (d * nn (S 302 (vs P s)) + l) t a u w) 207 s 0 (some t)) 1 t s) _ = _
      rw [f1]; rfl
    · refine rex_log (S := sQ S (vs P s) t s tn (nI d) (nI l) (nI (tl S ch (vs P s) d l)) x) ?_ f5
      intro s' hs' e q1 q2
      obtain ⟨t', y1, y2, y3⟩ := hR s' hs' e q1 q2
      have y2' : sl P t' = s' := y2
      have ne : t' ≠ t := fun q => e (by rw [← y2', q, e1])
      exact ⟨t', y1, y2, by rw [sQ_o ne 406 (by decide) (by decide)]; exact y3⟩
    · rw [f5 204 s (by decide) (by decide)]; rfl
    · rw [f5 206 s (by decide) (by decide)]; rfl
end BOARDB
