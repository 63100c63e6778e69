/-! what a turn does: here, off, away; and what follows it -/
section ACTS
variable {k ns nc nv nt tn bn : Nat} {ch : Nat → Nat → List Nat} {S : TS} {P : TP} {N : TN} {M : TS}
theorem CI_inc (hC : CI k ns nc nv nt tn ch S P N) (h : tn + 1 ≤ 500 * k) : CI k ns nc nv nt (tn + 1) ch (up S 511 0 (nI (tn + 1))) P N := by
  refine ⟨hC.cnt, hC.ship, hC.cab, hC.cabn, hC.sail, hC.how, hC.one, hC.ramp, hC.tick, hC.ab, hC.cb, hC.tk, hC.uq, hC.std, ⟨up_v, h⟩, ?_, hC.lnk, hC.mem, hC.dl, hC.ctg⟩
  refine ⟨fun t ht h3 => ?_, hC.brd.2⟩
  obtain ⟨x, a, b⟩ := hC.brd.1 t ht h3
  exact ⟨x, by omega, b⟩
theorem MI_inc (hM : MI ns nc nv nt tn bn S P M) : MI ns nc nv nt (tn + 1) bn (up S 511 0 (nI (tn + 1))) P (up M 624 0 (nI (tn + 1))) := by
  refine ⟨hM.cnt, hM.ship, hM.cab, hM.sail, hM.how, hM.off, hM.ramp, ?_, ⟨up_v, hM.turn.2.1, by have := hM.turn.2.2; omega⟩, hM.brd, hM.log, hM.new⟩
  intro t q ht hq
  refine (hM.tick t q ht hq).trans ?_
  match q, hq with
  | 0, _ => rfl
  | 1, _ => rfl
  | 2, _ => rfl
  | 3, _ => rfl
  | 4, _ => rfl
  | 5, _ => rfl
  | 6, _ => rfl
  | 7, _ => rfl
  | 8, _ => rfl
  | 9, _ => rfl
  | 10, _ => rfl
  | 11, _ => rfl
  | 12, _ => rfl
/-- the log after an act that left CI and MI whole -/
theorem wlog1 (a : Int32) (hk : k < 600) {t s : Nat} (hC : CI k ns nc nv nt tn ch S P N) (hM : MI ns nc nv nt tn bn S P M) (hn : tn + 1 ≤ 500 * k) (ht : t < nt) (hs : s < nv) : ∃ S' M', f5_writeLog S P a t s = some (S', P) ∧ f6_write M a (nI t) (nI s) = some M' ∧ CI k ns nc nv nt (tn + 1) ch S' P N ∧ MI ns nc nv nt (tn + 1) bn S' P M' ∧ (∀ c i, c < 505 → c ≠ 205 → S' c i = S c i) :=  by
  obtain ⟨S', M', e1, e2, e3, e4, e5, -⟩ := wlog a hk (CI_inc hC hn) (MI_inc hM) hC.turn.1 hM.turn.1 ht hs
  exact ⟨S', M', e1, e2, e3, e4, e5⟩
theorem rex_log {s : Nat} {S' : TS} (hR : Rex nv nt s S P) (h : ∀ c i, c < 505 → c ≠ 205 → S' c i = S c i) : Rex nv nt s S' P := by
  intro s' hs' e q1 q2
  rw [h 204 s' (by decide) (by decide)] at q1
  rw [h 206 s' (by decide) (by decide)] at q2
  obtain ⟨t, a, b, c⟩ := hR s' hs' e q1 q2
  exact ⟨t, a, b, by rw [h 406 t (by decide) (by decide)]; exact c⟩
/-- one act: both sides, from one world to the next -/
def Act (k ns nc nv nt tn s : Nat) (N : TN) (S : TS) (f5 : Option (TS × TP)) (f6 : Option TS) : Prop := ∃ bn ch S' P' M', f5 = some (S', P') ∧ f6 = some M' ∧ CI k ns nc nv nt (tn + 1) ch S' P' N ∧ MI ns nc nv nt (tn + 1) bn S' P' M' ∧ Rex nv nt s S' P' ∧ S' 204 s = S 204 s ∧ S' 206 s = S 206 s
theorem actHere (hk : k < 600) {t s : Nat} (hC : CI k ns nc nv nt tn ch S P N) (hM : MI ns nc nv nt tn bn S P M) (hn : tn + 1 ≤ 500 * k) (hR : Rex nv nt s S P) (ht : t < nt) (hs : s < nv) (e1 : sl P t = s) (e2 : S 406 t = 1) : Act k ns nc nv nt tn s N S (lt (up S 406 t (2)) fun (S17 : TS) => b2 (f5_writeLog S17 P (0) t s) fun (S18 : TS) (P19 : TP) => some (S18, P19)) ((f6_put M (nI t) (4) (2)).bind fun (M12 : TS) => f6_write M12 (0) (nI t) (nI s)) := by
  have hb := hC.nt4
  have n3 : ¬ S 406 t = 3 := by rw [e2]; decide
  obtain ⟨S', M', g1, g2, g3, g4, g5⟩ := wlog1 0 hk (CI_howt hC n3 (v := 2) (by decide) ⟨2, by decide, rfl⟩ (by rw [e2]; decide)) (MI_howt hM n3 (v := 2) (by decide)) hn ht hs
  refine ⟨bn, ch, S', P, M', ?_, ?_, g3, g4, ?_, ?_, ?_⟩
  · show b2 (f5_writeLog (up S 406 t 2) P 0 t s) _ = _
    rw [g1]; rfl
  · rw [put4 (by omega), Option.bind_some]; exact g2
  · refine rex_log (S := up S 406 t 2) ?_ g5
    intro s' hs' e q1 q2
    obtain ⟨t', a, b, c⟩ := hR s' hs' e q1 q2
    refine ⟨t', a, b, ?_⟩
    rw [up_eq]; split
    · decide
    · exact c
  · rw [g5 204 s (by decide) (by decide)]; rfl
  · rw [g5 206 s (by decide) (by decide)]; rfl
theorem actOff (hk : k < 600) {t s : Nat} (hC : CI k ns nc nv nt tn ch S P N) (hM : MI ns nc nv nt tn bn S P M) (hn : tn + 1 ≤ 500 * k) (hR : Rex nv nt s S P) (ht : t < nt) (hs : s < nv) (e1 : sl P t = s) (h3 : S 406 t = 3) (h0 : S 206 s = 0) (hmax : ∀ u, u < nt → sl P u = s → S 406 u = 3 → S 414 u ≤ S 414 t) : Act k ns nc nv nt tn s N S (b2 (f5_bringOff S P t) fun (S22 : TS) (P23 : TP) => b2 (f5_writeLog S22 P23 (6) t s) fun (S25 : TS) (P26 : TP) => some (S25, P26)) ((f6_comesOff M (nI t)).bind fun (M34 : TS) => f6_write M34 (6) (nI t) (nI s)) := by
  have hrr : ∀ s', s' < nv → ¬ P 207 s' 0 = some t := by
    intro s' hs' q
    obtain ⟨-, -, q', -⟩ := hC.ramp s' t hs' q
    have : s' = s := by rw [← q', e1]
    rw [this, (hC.how s hs).2.2.2 h0] at q
    exact absurd q (by simp)
  have hlast : ∀ A B : List Nat, ∀ d l : Nat, d < nn (S 301 (st P t)) → l < nn (S 302 (st P t)) → ch (st P t) (d * nn (S 302 (st P t)) + l) = A ++ t :: B → B = [] := by
    intro A B d l hd hl hch
    have hi := hC.st3 ht
    obtain ⟨k1, k2, k3, k4, k5, k6, k7⟩ := lane hC hi hd hl
    cases B with
    | nil => rfl
    | cons b B =>
      have hmb : b ∈ ch (st P t) (d * nn (S 302 (st P t)) + l) := by rw [hch]; exact List.mem_append_right _ (List.mem_cons_of_mem _ (List.mem_cons_self ..))
      obtain ⟨f1, f2, f3, f4, f5⟩ := (chm hC hi hd hl b).mp hmb
      have hsb : sl P b = sl P t := hC.one _ _ (hC.t5 f1) (hC.t5 ht) (hC.ab b f1 f2) (hC.ab t ht h3) f3
      have := hmax b f1 (by rw [hsb, e1]) f2
      rw [hch] at k5
      have k5' := (List.pairwise_cons.mp (List.pairwise_append.mp k5).2.1).1 b (List.mem_cons_self ..)
      rw [Int32.lt_iff_toInt_lt] at k5'
      rw [Int32.le_iff_toInt_le] at this
      omega
  obtain ⟨ch', S', P', M', g1, g2, g3, g4, g5, g6, g7, g8, g9, g10, g11⟩ := brOff hC hM ht h3 hrr hlast
  obtain ⟨S2, M2, f1, f2, f3, f4, f5⟩ := wlog1 6 hk g3 g4 hn ht hs
  refine ⟨bn, ch', S2, P', M2, ?_, ?_, f3, f4, ?_, ?_, ?_⟩
  · rw [g1, b2_some, f1]; rfl
  · rw [g2, Option.bind_some]; exact f2
  · refine rex_log (S := S') ?_ f5
    intro s' hs' e q1 q2
    rw [g5 204 s' (by decide) (by decide)] at q1
    rw [g5 206 s' (by decide) (by decide)] at q2
    obtain ⟨t', a, b, c⟩ := hR s' hs' e q1 q2
    refine ⟨t', a, by unfold sl; rw [g8]; exact b, ?_⟩
    by_cases w : t' = t
    · rw [w, g10]; decide
    · rw [g9 t' w]; exact c
  · rw [f5 204 s (by decide) (by decide), g5 204 s (by decide) (by decide)]
  · rw [f5 206 s (by decide) (by decide), g5 206 s (by decide) (by decide)]
/-- the next sailing of the line, on both sides -/
theorem line (hC : CI k ns nc nv nt tn ch S P N) (hM : MI ns nc nv nt tn bn S P M) {s t : Nat} (hs : s < nv) (ht : t < nt) (K : Option Nat → Option (Option Nat)) (K' : Int32 → Option TS) : ∀ (n i : Nat) (y : Option Nat), (∀ x, y = some x → x < nv ∧ (S 204 x = 0 ∨ S 204 x = 1) ∧ S 206 x = -1) → i ≤ nv → nv < i + n → ∃ r, f5_nextOfLine_5 K S P s (S 402 t) n y (nI i) = K r ∧ f6_goesAway_5 K' M (nI t) (nI s) n (oI y) (nI i) = K' (oI r) ∧ ∀ x, r = some x → x < nv := by
  have hb := hC.nt4
  have hv := hC.nv6
  have hns := hC.ns1
  intro n
  induction n with
  | zero => intro i y hy h1 h2; omega
  | succ n ih =>
    intro i y hy h1 h2
    rw [f5_nextOfLine_5, f6_goesAway_5, hC.c5, hM.cnt.2.2.1]
    rcases Nat.lt_or_ge i nv with hi | hi
    · obtain ⟨m1, m2, m3⟩ := hM.sail i hi
      obtain ⟨m4, m5, m6⟩ := hM.how i hi
      obtain ⟨m7, m8, m9⟩ := hM.sail s hs
      have hsh := hC.s3 hi
      rw [if_neg (nI_ge hi (by omega)), if_neg (nI_ge hi (by omega)), ix_nI (show i < 60 by omega) (by decide), ix_nI (show s < 60 by omega) (by decide)]
      simp only [Option.bind_some, lt, hC.s9 hi, hC.s2 hi, toGo6 hM hv hi, takes5, m1, m2, m3, m6, m8, m9, of1 hM hb ht, nI_1, ix_nI (show vs P i < 12 by omega) (by decide), (hM.ship _ hsh).2.2.1]
      have skip := ih (i + 1) y hy (by omega) (by omega)
      by_cases e1 : S 203 i = S 203 s
      · simp only [if_pos e1]
        by_cases e2 : S 202 i ≤ S 202 s
        · simp only [if_pos e2]
          by_cases e3 : S 204 i = 0 ∨ S 204 i = 1
          · simp only [if_pos e3, if_neg one_ne]; exact skip
          · simp only [if_neg e3, if_true]; exact skip
        · simp only [if_neg e2]
          by_cases e3 : S 204 i = 0 ∨ S 204 i = 1
          · simp only [if_pos e3, if_neg one_ne]
            by_cases e4 : S 206 i = -1
            · have w : (S 204 i = 0 ∨ S 204 i = 1) ∧ S 206 i = -1 := ⟨e3, e4⟩
              simp only [if_pos w, if_neg one_ne, if_pos e4]
              by_cases e5 : S 303 (vs P i) < S 402 t
              · have e6 : ¬ S 402 t ≤ S 303 (vs P i) := by rw [Int32.le_iff_toInt_le]; rw [Int32.lt_iff_toInt_lt] at e5; omega
                simp only [if_pos e5, if_neg e6]; exact skip
              · have e6 : S 402 t ≤ S 303 (vs P i) := by rw [Int32.le_iff_toInt_le]; rw [Int32.lt_iff_toInt_lt] at e5; omega
                simp only [if_neg e5, if_pos e6]
                have take := ih (i + 1) (some i) (fun x hx => by rw [← Option.some.inj hx]; exact ⟨hi, e3, e4⟩) (by omega) (by omega)
                cases y with
                | none =>
                  rw [if_pos (show oI none = -1 from rfl)]
                  exact take
                | some x =>
                  obtain ⟨hx, -⟩ := hy x rfl
                  rw [if_neg (show ¬ oI (some x) = -1 from nI_neg1 (by omega)), show ix (oI (some x)) 60 = some x from ix_nI (by omega) (by decide)]
                  simp only [Option.elim_some, Option.bind_some, (hM.sail x hx).2.1]
                  by_cases e7 : S 202 x ≤ S 202 i
                  · simp only [if_pos e7]; exact skip
                  · simp only [if_neg e7]; exact take
            · have w : ¬ ((S 204 i = 0 ∨ S 204 i = 1) ∧ S 206 i = -1) := fun q => e4 q.2
              simp only [if_neg w, if_neg e4, if_true]; exact skip
          · have w : ¬ ((S 204 i = 0 ∨ S 204 i = 1) ∧ S 206 i = -1) := fun q => e3 q.1
            simp only [if_neg w, if_neg e3, if_true]; exact skip
      · simp only [if_neg e1]; exact skip
    · have : i = nv := by omega
      subst this
      rw [if_pos (Int32.le_refl _), if_pos (Int32.le_refl _)]
      exact ⟨y, rfl, rfl, fun x hx => (hy x hx).1⟩
end ACTS
