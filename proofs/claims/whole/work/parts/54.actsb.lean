/-! what a turn does: away, on from the ramp; and what follows it -/
section ACTSB
variable {k ns nc nv nt tn bn : Nat} {ch : Nat → Nat → List Nat} {S : TS} {P : TP} {N : TN} {M : TS}
theorem sl_trip {t s2 t' : Nat} : sl (up3 P 401 t 0 (some s2)) t' = if t' = t then s2 else sl P t' := by
  unfold sl; rw [up3_eq]; split <;> rfl
theorem CI_trip (hC : CI k ns nc nv nt tn ch S P N) {t s2 : Nat} (h3 : ¬ S 406 t = 3) (hs2 : s2 < nv) : CI k ns nc nv nt tn ch S (up3 P 401 t 0 (some s2)) N := by
  have ne : ∀ t', S 406 t' = 3 → t' ≠ t := fun t' h e => h3 (by rw [← e]; exact h)
  have ost : ∀ t', t' ≠ t → st (up3 P 401 t 0 (some s2)) t' = st P t' := fun t' e => by
    unfold st; rw [sl_trip, if_neg e]; rfl
  refine ⟨hC.cnt, hC.ship, hC.cab, hC.cabn, hC.sail, hC.how, hC.one, ?_, ?_, ?_, ?_, hC.tk, hC.uq, ?_, hC.turn, hC.brd, hC.lnk, ?_, ?_, hC.ctg⟩
  · intro s' t' hs' hp
    obtain ⟨a, b, c, d, e⟩ := hC.ramp s' t' hs' hp
    rw [sl_trip, if_neg (ne t' b)]
    exact ⟨a, b, c, d, e⟩
  · intro t' ht'
    obtain ⟨a, b, c, d, e⟩ := hC.tick t' ht'
    rw [sl_trip]
    by_cases w : t' = t
    · rw [if_pos w, w, up3_v]; rw [w] at a b e; exact ⟨a, b, rfl, hs2, e⟩
    · rw [if_neg w, up3_i w]; exact ⟨a, b, c, d, e⟩
  · intro t' ht' h
    rw [sl_trip, if_neg (ne t' h)]; exact hC.ab t' ht' h
  · intro t' ht' h
    rw [ost t' (ne t' h)]; exact hC.cb t' ht' h
  · intro i hi
    rw [hC.std i hi]
    refine congrArg nI (cnt_congr (fun t' _ => ?_))
    by_cases w : t' = t
    · rw [decide_eq_false (show ¬ (S 406 t' = 3 ∧ st P t' = i) from fun q => ne t' q.1 w), decide_eq_false (show ¬ (S 406 t' = 3 ∧ st (up3 P 401 t 0 (some s2)) t' = i) from fun q => ne t' q.1 w)]
    · rw [ost t' w]
  · intro i j t' hi hj
    rw [hC.mem i j t' hi hj]
    constructor
    · rintro ⟨a, b, c, d⟩; exact ⟨a, b, by rw [ost t' (ne t' b)]; exact c, d⟩
    · rintro ⟨a, b, c, d⟩; exact ⟨a, b, by rw [← ost t' (ne t' b)]; exact c, d⟩
  · intro t' ht' h
    rw [ost t' (ne t' h)]; exact hC.dl t' ht' h
theorem MI_trip (hM : MI ns nc nv nt tn bn S P M) {t s2 : Nat} : MI ns nc nv nt tn bn S (up3 P 401 t 0 (some s2)) (up M 3500 (13 * t + 0) (nI s2)) := by
  refine ⟨hM.cnt, hM.ship, hM.cab, hM.sail, hM.how, hM.off, hM.ramp, tick_up hM.tick (by decide) ?_, hM.turn, hM.brd, hM.log, hM.new⟩
  intro t' q' hq
  match q', hq with
  | 0, _ =>
    show nI (sl (up3 P 401 t 0 (some s2)) t') = _
    rw [sl_trip]
    by_cases e : t' = t
    · rw [if_pos e, if_pos ⟨e, rfl⟩]
    · rw [if_neg e, if_neg (fun h => e h.1)]; rfl
  | 1, _ => rw [if_neg (fun h => absurd h.2 (by decide))]; rfl
  | 2, _ => rw [if_neg (fun h => absurd h.2 (by decide))]; rfl
  | 3, _ => rw [if_neg (fun h => absurd h.2 (by decide))]; rfl
  | 4, _ => rw [if_neg (fun h => absurd h.2 (by decide))]; rfl
  | 5, _ => rw [if_neg (fun h => absurd h.2 (by decide))]; rfl
  | 6, _ => rw [if_neg (fun h => absurd h.2 (by decide))]; rfl
  | 7, _ => rw [if_neg (fun h => absurd h.2 (by decide))]; rfl
  | 8, _ => rw [if_neg (fun h => absurd h.2 (by decide))]; rfl
  | 9, _ => rw [if_neg (fun h => absurd h.2 (by decide))]; rfl
  | 10, _ => rw [if_neg (fun h => absurd h.2 (by decide))]; rfl
  | 11, _ => rw [if_neg (fun h => absurd h.2 (by decide))]; rfl
  | 12, _ => rw [if_neg (fun h => absurd h.2 (by decide))]; rfl
theorem actAway (hk : k < 600) {t s : Nat} (hC : CI k ns nc nv nt tn ch S P N) (hM : MI ns nc nv nt tn bn S P M) (hn : tn + 1 ≤ 500 * k) (hR : Rex nv nt s S P) (ht : t < nt) (hs : s < nv) (hmv : Mv S P s t) : Act k ns nc nv nt tn s N S ((f5_nextOfLine S P s (S 402 t)).bind fun (r7 : Option Nat) => r7.elim (lt (up S 406 t (5)) fun (S10 : TS) => lt (up S10 412 t (S10 405 t)) fun (S11 : TS) => b2 (f5_writeLog S11 P (8) t s) fun (S12 : TS) (P13 : TP) => some (S12, P13)) (fun (t9 : Nat) => lt (up3 P 401 t 0 (some t9)) fun (P15 : TP) => lt (if (S 406 t) = 0 then (0) else (1)) fun (x16) => lt (up S 406 t x16) fun (S17 : TS) => lt (up S17 413 t ((S17 413 t) + (1))) fun (S18 : TS) => b2 (f5_writeLog S18 P15 (7) t s) fun (S19 : TS) (P20 : TP) => some (S19, P20))) (f6_goesAway M (nI t) (nI s)) := by
  have hb := hC.nt4
  have hv := hC.nv6
  obtain ⟨e1, e4, n3⟩ := hmv
  have n6 : ¬ S 406 t = 6 := fun q => by rw [q] at e4; exact absurd e4 (by decide)
  unfold f6_goesAway
  obtain ⟨r, g1, g2, g3⟩ := line hC hM hs ht (fun w9 => some w9) (fun w14 => if w14 = (-1) then
  ((f6_put M (nI t) (4) (5)).bind fun (M28 : TS) =>
  (f6_of M28 (nI t) (10)).bind fun (v30) =>
  (f6_put M28 (nI t) (11) v30).bind fun (M32 : TS) =>
  (f6_write M32 (8) (nI t) (nI s)).bind fun (M34 : TS) =>
  some M34)
  else
  ((f6_put M (nI t) (0) w14).bind fun (M15 : TS) =>
  (f6_of M15 (nI t) (4)).bind fun (v17) =>
  lt (if v17 = 0 then (0) else (1)) fun (x19) =>
  (f6_put M15 (nI t) (4) x19).bind fun (M20 : TS) =>
  (f6_of M20 (nI t) (12)).bind fun (v22) =>
  (f6_put M20 (nI t) (12) (v22 + (1))).bind fun (M24 : TS) =>
  (f6_write M24 (7) (nI t) (nI s)).bind fun (M26 : TS) =>
  some M26)) FU 0 none (fun x hx => absurd hx (by simp)) (by omega) (by rw [FU_eq]; omega)
  rw [show f5_nextOfLine S P s (S 402 t) = some r from g1]
  have g2' := g2
  rw [show oI none = -1 from rfl, show nI 0 = 0 from rfl] at g2'
  rw [g2', Option.bind_some]
  cases r with
  | none =>
    simp only [Option.elim_none, lt]
    rw [if_pos (show oI none = -1 from rfl), put4 (by omega)]
    have ho : f6_of (up M 3500 (13 * t + 4) 5) (nI t) 10 = some (S 405 t) := by
      rw [ofa10 (by omega), up_i (by omega)]; exact congrArg some (hM.tick t 10 ht (by decide))
    simp only [Option.bind_some, ho, put11 (show t < 400 by omega)]
    obtain ⟨S', M', f1, f2, f3, f4, f5⟩ := wlog1 8 hk (CI_f412 (CI_howt hC n3 (v := 5) (by decide) ⟨5, by decide, rfl⟩ n6) (t := t) (v := S 405 t)) (MI_f412 (MI_howt hM n3 (v := 5) (by decide)) (t := t) (v := S 405 t)) hn ht hs
    refine ⟨bn, ch, S', P, M', ?_, ?_, f3, f4, ?_, ?_, ?_⟩
    · show b2 (f5_writeLog (up (up S 406 t 5) 412 t (S 405 t)) P 8 t s) _ = _
      rw [f1]; rfl
    · rw [f2]; rfl
    · refine rex_log (S := up (up S 406 t 5) 412 t (S 405 t)) ?_ f5
      intro s' hs' e q1 q2
      obtain ⟨t', a, b, c⟩ := hR s' hs' e q1 q2
      refine ⟨t', a, b, ?_⟩
      have w : t' ≠ t := fun w => e (by rw [← b, w, e1])
      show up S 406 t 5 406 t' ≤ 4
      rw [up_i w]; exact c
    · rw [f5 204 s (by decide) (by decide)]; rfl
    · rw [f5 206 s (by decide) (by decide)]; rfl
  | some s2 =>
    have hs2 := g3 s2 rfl
    simp only [Option.elim_some, lt]
    rw [if_neg (show ¬ oI (some s2) = -1 from nI_neg1 (by omega)), show oI (some s2) = nI s2 from rfl, put0 (by omega)]
    have ho : f6_of (up M 3500 (13 * t + 0) (nI s2)) (nI t) 4 = some (S 406 t) := by
      rw [ofa4 (by omega), up_i (by omega)]; exact congrArg some (hM.tick t 4 ht (by decide))
    simp only [Option.bind_some, ho, put4 (show t < 400 by omega)]
    have hx : ∃ q : Nat, q ≤ 7 ∧ (if S 406 t = 0 then (0 : Int32) else 1) = nI q := by
      split
      · exact ⟨0, by decide, rfl⟩
      · exact ⟨1, by decide, rfl⟩
    have hx3 : ¬ (if S 406 t = 0 then (0 : Int32) else 1) = 3 := by split <;> decide
    have hx4 : (if S 406 t = 0 then (0 : Int32) else 1) ≤ 4 := by split <;> decide
    generalize (if S 406 t = 0 then (0 : Int32) else 1) = x at hx hx3 hx4 ⊢
    have ho2 : f6_of (up (up M 3500 (13 * t + 0) (nI s2)) 3500 (13 * t + 4) x) (nI t) 12 = some (S 413 t) := by
      rw [ofa12 (by omega), up_i (by omega), up_i (by omega)]; exact congrArg some (hM.tick t 12 ht (by decide))
    simp only [ho2, Option.bind_some, put12 (show t < 400 by omega)]
    obtain ⟨S', M', f1, f2, f3, f4, f5⟩ := wlog1 7 hk (CI_f413 (CI_howt (CI_trip hC n3 hs2) n3 (v := x) hx3 hx n6) (t := t) (v := S 413 t + 1)) (MI_f413 (MI_howt (MI_trip hM (t := t) (s2 := s2)) n3 (v := x) hx3) (t := t) (v := S 413 t + 1)) hn ht hs
    refine ⟨bn, ch, S', up3 P 401 t 0 (some s2), M', ?_, ?_, f3, f4, ?_, ?_, ?_⟩
    · show b2 (f5_writeLog (up (up S 406 t x) 413 t (S 413 t + 1)) (up3 P 401 t 0 (some s2)) 7 t s) _ = _
      rw [f1]; rfl
    · rw [f2]; rfl
    · refine rex_log (S := up (up S 406 t x) 413 t (S 413 t + 1)) ?_ f5
      intro s' hs' e q1 q2
      obtain ⟨t', a, b, c⟩ := hR s' hs' e q1 q2
      have w : t' ≠ t := fun w => e (by rw [← b, w, e1])
      refine ⟨t', a, by rw [sl_trip, if_neg w]; exact b, ?_⟩
      show up S 406 t x 406 t' ≤ 4
      rw [up_i w]; exact c
    · rw [f5 204 s (by decide) (by decide)]; rfl
    · rw [f5 206 s (by decide) (by decide)]; rfl
theorem afterB (hC : CI k ns nc nv nt tn ch S P N) (hM : MI ns nc nv nt tn bn S P M) {s : Nat} (hs : s < nv) (h1 : S 204 s = 1) (h0 : ¬ S 206 s = 0) (hR : Rex nv nt s S P) : ∃ S' P' M', f5_bringRecallOn (up S 206 s (S 206 s - (if S 206 s ≤ 0 then 0 else 1))) P s = some (S', P') ∧ (if M 3100 s ≤ 0 then f6_lookAtRecall M (nI s) else f6_lookAtRecall (up M 3100 s (M 3100 s - 1)) (nI s)) = some M' ∧ CI k ns nc nv nt tn ch S' P' N ∧ MI ns nc nv nt tn bn S' P' M' ∧ Rec nv nt S' P' := by
  rw [(hM.how s hs).2.2]
  rcases (hC.how s hs).2.1 with g | ⟨x, hx, g⟩
  · rw [g, if_pos (show (-1 : Int32) ≤ 0 by decide), if_pos (show (-1 : Int32) ≤ 0 by decide)]
    rw [show (-1 : Int32) - 0 = -1 by decide]
    have : up S 206 s (-1) = S := by rw [← g, up_id]
    rw [this]
    obtain ⟨e1, e2⟩ := recA hC hM hs g
    refine ⟨S, P, M, e1, e2, hC, hM, ?_⟩
    intro s' hs' q1 q2
    by_cases e : s' = s
    · rw [e, g] at q2; exact absurd q2 (by decide)
    · exact hR s' hs' e q1 q2
  · have hx0 : 0 < x := by
      rcases Nat.eq_zero_or_pos x with w | w
      · rw [w] at g; exact absurd g h0
      · exact w
    rw [g, if_neg (nI_nle hx0 (by omega)), if_neg (nI_nle hx0 (by omega)), nI_sub1 hx0]
    exact recB hC hM hs h1 h0 (x := x - 1) (by omega) hR
end ACTSB
