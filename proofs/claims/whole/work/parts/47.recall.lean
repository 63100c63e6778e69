/-! a recall comes on; recall -/
section RECALL
variable {k ns nc nv nt tn bn : Nat} {ch : Nat → Nat → List Nat} {S : TS} {P : TP} {N : TN} {M : TS}
theorem recX (hC : CI k ns nc nv nt tn ch S P N) (hM : MI ns nc nv nt tn bn S P M) {s x : Nat} (hs : s < nv) (h1 : S 204 s = 1) (h0 : ¬ S 206 s = 0) (hx : 0 < x ∧ x ≤ 1000) : CI k ns nc nv nt tn ch (up S 206 s (nI x)) P N ∧ MI ns nc nv nt tn bn (up S 206 s (nI x)) P (up M 3100 s (nI x)) := by
  have nx : ¬ nI x = 0 := nI_ne0 hx.1 (by omega)
  constructor
  · refine ⟨hC.cnt, hC.ship, hC.cab, hC.cabn, hC.sail, ?_, hC.one, hC.ramp, hC.tick, hC.ab, hC.cb, hC.tk, hC.uq, hC.std, hC.turn, hC.brd, hC.lnk, hC.mem, hC.dl, hC.ctg⟩
    intro s' hs'
    obtain ⟨a, b, c, d⟩ := hC.how s' hs'
    by_cases e : s' = s
    · rw [e, up_v]
      have h1' : up S 206 s (nI x) 204 s = 1 := h1
      rw [h1']
      exact ⟨Or.inr (Or.inl rfl), Or.inr ⟨x, hx.2, rfl⟩, fun q => absurd q one_ne, fun q => absurd q nx⟩
    · rw [up_i (c' := 206) e]; exact ⟨a, b, c, d⟩
  · refine ⟨hM.cnt, hM.ship, hM.cab, hM.sail, ?_, ?_, hM.ramp, hM.tick, hM.turn, hM.brd, hM.log, hM.new⟩
    · intro s' hs'
      obtain ⟨a, b, c⟩ := hM.how s' hs'
      refine ⟨a, b, ?_⟩
      rw [up_eq, up_eq, c]
    · intro s' hs' g
      by_cases e : s' = s
      · rw [e, up_v, if_neg nx]
        have := hM.off s hs (Or.inr h1)
        rw [if_neg h0] at this; exact this
      · rw [up_i (c' := 206) e]; exact hM.off s' hs' g
theorem recC (hC : CI k ns nc nv nt tn ch S P N) (hM : MI ns nc nv nt tn bn S P M) {s : Nat} (hs : s < nv) (h1 : S 204 s = 1) {M0 : TS} (h34 : M0 3400 s = 1) (h31 : M0 3100 s = 0) (h32 : M0 3200 s = -1) (ho : ∀ c i, i ≠ s → M0 c i = M c i) (hc : ∀ c i, c ≠ 3400 → c ≠ 3100 → c ≠ 3200 → M0 c i = M c i) : CI k ns nc nv nt tn ch (up S 206 s 0) (up3 P 207 s 0 none) N ∧ MI ns nc nv nt tn bn (up S 206 s 0) (up3 P 207 s 0 none) M0 := by
  have h1' : up S 206 s 0 204 s = 1 := h1
  constructor
  · refine ⟨hC.cnt, hC.ship, hC.cab, hC.cabn, hC.sail, ?_, hC.one, ?_, hC.tick, hC.ab, hC.cb, hC.tk, hC.uq, hC.std, hC.turn, hC.brd, hC.lnk, hC.mem, hC.dl, hC.ctg⟩
    · intro s' hs'
      obtain ⟨a, b, c, d⟩ := hC.how s' hs'
      by_cases e : s' = s
      · rw [e, up_v, h1', up3_v]
        exact ⟨Or.inr (Or.inl rfl), Or.inr ⟨0, by decide, rfl⟩, fun q => absurd q one_ne, fun _ => rfl⟩
      · rw [up_i (c' := 206) e, up3_i e]; exact ⟨a, b, c, d⟩
    · intro s' t hs' hp
      by_cases e : s' = s
      · rw [e, up3_v] at hp; exact absurd hp (by simp)
      · rw [up3_i e] at hp; exact hC.ramp s' t hs' hp
  · refine ⟨?_, ?_, ?_, ?_, ?_, ?_, ?_, ?_, ?_, ?_, ?_, ?_⟩
    · unfold MI_cnt
      rw [hc 620 0 (by decide) (by decide) (by decide), hc 621 0 (by decide) (by decide) (by decide), hc 622 0 (by decide) (by decide) (by decide), hc 623 0 (by decide) (by decide) (by decide)]; exact hM.cnt
    · intro i hi; rw [hc 2000 i (by decide) (by decide) (by decide), hc 2100 i (by decide) (by decide) (by decide), hc 2200 i (by decide) (by decide) (by decide), hc 2300 i (by decide) (by decide) (by decide)]; exact hM.ship i hi
    · intro i hi; rw [hc 2400 i (by decide) (by decide) (by decide), hc 2500 i (by decide) (by decide) (by decide)]; exact hM.cab i hi
    · intro i hi; rw [hc 2600 i (by decide) (by decide) (by decide), hc 2700 i (by decide) (by decide) (by decide), hc 2800 i (by decide) (by decide) (by decide)]; exact hM.sail i hi
    · intro i hi
      obtain ⟨a, b, c⟩ := hM.how i hi
      rw [hc 2900 i (by decide) (by decide) (by decide), hc 3000 i (by decide) (by decide) (by decide)]
      refine ⟨a, b, ?_⟩
      by_cases e : i = s
      · rw [e, h31, up_v]
      · rw [ho 3100 i e, up_i e]; exact c
    · intro i hi g
      by_cases e : i = s
      · rw [e, h34, up_v, if_pos rfl]
      · rw [ho 3400 i e, up_i e]; exact hM.off i hi g
    · intro i hi
      obtain ⟨a, b⟩ := hM.ramp i hi
      by_cases e : i = s
      · rw [e, up3_v]; exact ⟨h32, fun q => absurd rfl q⟩
      · rw [up3_i e, ho 3200 i e, ho 3300 i e]; exact ⟨a, b⟩
    · intro t q ht hq; rw [hc 3500 _ (by decide) (by decide) (by decide)]
      refine (hM.tick t q ht hq).trans ?_
      match q, hq with
      | 0, _ => rfl
      | 1, _ => rfl
      | 2, _ => rfl
      | 3, _ => rfl
      | 4, _ => rfl
      | 5, _ => rfl
      | 6, _ => rfl
      | 7, _ => rfl
      | 8, _ => rfl
      | 9, _ => rfl
      | 10, _ => rfl
      | 11, _ => rfl
      | 12, _ => rfl
    · unfold MI_turn; rw [hc 624 0 (by decide) (by decide) (by decide), hc 625 0 (by decide) (by decide) (by decide)]; exact hM.turn
    · unfold MI_brd; simp only [hc 3600 _ (by decide) (by decide) (by decide)]; exact hM.brd
    · intro i hi; rw [hc 3700 i (by decide) (by decide) (by decide), hc 3800 i (by decide) (by decide) (by decide), hc 3900 i (by decide) (by decide) (by decide)]; exact hM.log i hi
    · intro i hi; rw [hc 2900 i (by decide) (by decide) (by decide), hc 3000 i (by decide) (by decide) (by decide), hc 3300 i (by decide) (by decide) (by decide), ho 3400 i (by omega)]; exact hM.new i hi
def mK (M : TS) (s : Nat) : TS := up (up (up M 3400 s 1) 3100 s 0) 3200 s (-1)
def k58 (M3 : TS) (s : Nat) : Option TS := if (M3 3400 s) = 0 then (some M3) else (b2 (f6_hasTurn M3 (nI s)) fun (v5) (M6 : TS) => if v5 = 0 then ((ix (nI s) 60).bind fun (j8 : Nat) => some (up M6 2900 j8 (3))) else (some M6))
theorem look6 {M : TS} {s : Nat} (hs : s < 60) : f6_lookAtRecall M (nI s) = if M 3100 s = -1 then some M else if M 3400 s = 0 then (if M 3100 s = 0 then k58 (mK M s) s else (b2 (f6_hasTurn M (nI s)) fun v18 M19 => if v18 = 0 then k58 (mK M19 s) s else k58 M19 s)) else k58 M s := by
  unfold f6_lookAtRecall k58
  rw [ix_nI hs (by decide)]
  simp only [Option.bind_some, lt]
  rfl
def k20 (S : TS) (P : TP) (s : Nat) : Option (TS × TP) := if S 206 s = 0 then ((f5_latestAboard S (up3 P 207 s 0 none) s).bind fun (r4 : Option Nat) => r4.elim ((f5_firstToMoveOn S (up3 P 207 s 0 none) s).bind fun (r7 : Option Nat) => r7.elim (some (up S 204 s (3), up3 P 207 s 0 none)) (fun (t9 : Nat) => some (S, up3 P 207 s 0 none))) (fun (t6 : Nat) => some (S, up3 P 207 s 0 none))) else some (S, P)
theorem bring5 {s : Nat} : f5_bringRecallOn S P s = if S 206 s ≤ 0 then k20 S P s else (f5_hasBoardingTurn S P s).bind fun v11 => if v11 = 0 then k20 (up S 206 s 0) P s else k20 S P s := by
  unfold f5_bringRecallOn k20
  rfl
theorem rex_up {s : Nat} {v : Int32} (hR : Rex nv nt s S P) : Rex nv nt s (up S 206 s v) (up3 P 207 s 0 none) := by
  intro s' hs' e q1 q2
  rw [up_i e] at q2
  exact hR s' hs' e q1 q2
theorem mK_h34 {M : TS} {s : Nat} : mK M s 3400 s = 1 := by show up M 3400 s 1 3400 s = 1; rw [up_v]
theorem mK_h31 {M : TS} {s : Nat} : mK M s 3100 s = 0 := by show up (up M 3400 s 1) 3100 s 0 3100 s = 0; rw [up_v]
theorem mK_h32 {M : TS} {s : Nat} : mK M s 3200 s = -1 := by unfold mK; rw [up_v]
theorem mK_ho {M : TS} {s : Nat} (c i : Nat) (h : i ≠ s) : mK M s c i = M c i := by unfold mK; rw [up_i h, up_i h, up_i h]
theorem mK_hc {M : TS} {s : Nat} (c i : Nat) (h1 : c ≠ 3400) (h2 : c ≠ 3100) (h3 : c ≠ 3200) : mK M s c i = M c i := by unfold mK; rw [up_c h3, up_c h2, up_c h1]
theorem recF (hC : CI k ns nc nv nt tn ch S P N) (hM : MI ns nc nv nt tn bn S P M) {s : Nat} (hs : s < nv) (h1 : S 204 s = 1) (hR : Rex nv nt s S P) {M0 : TS} (h34 : M0 3400 s = 1) (h31 : M0 3100 s = 0) (h32 : M0 3200 s = -1) (ho : ∀ c i, i ≠ s → M0 c i = M c i) (hc : ∀ c i, c ≠ 3400 → c ≠ 3100 → c ≠ 3200 → M0 c i = M c i) : ∃ S' P' M', k20 (up S 206 s 0) P s = some (S', P') ∧ k58 M0 s = some M' ∧ CI k ns nc nv nt tn ch S' P' N ∧ MI ns nc nv nt tn bn S' P' M' ∧ Rec nv nt S' P' := by
  obtain ⟨hC', hM'⟩ := recC hC hM hs h1 h34 h31 h32 ho hc
  obtain ⟨S', M', a, b, c, d, e⟩ := recD hC' hM' hs h1 up_v (rex_up hR)
  refine ⟨S', up3 P 207 s 0 none, M', ?_, ?_, c, d, e⟩
  · unfold k20
    rw [if_pos up_v]
    exact a
  · unfold k58
    rw [if_neg (show ¬ M0 3400 s = 0 by rw [h34]; exact one_ne)]
    exact b
theorem recB (hC : CI k ns nc nv nt tn ch S P N) (hM : MI ns nc nv nt tn bn S P M) {s x : Nat} (hs : s < nv) (h1 : S 204 s = 1) (h0 : ¬ S 206 s = 0) (hx : x ≤ 1000) (hR : Rex nv nt s S P) : ∃ S' P' M', f5_bringRecallOn (up S 206 s (nI x)) P s = some (S', P') ∧ f6_lookAtRecall (up M 3100 s (nI x)) (nI s) = some M' ∧ CI k ns nc nv nt tn ch S' P' N ∧ MI ns nc nv nt tn bn S' P' M' ∧ Rec nv nt S' P' := by
  have hv := hC.nv6
  have e34 : M 3400 s = 0 := by
    have := hM.off s hs (Or.inr h1)
    rw [if_neg h0] at this; exact this
  rw [bring5, look6 (by omega), up_v, up_v, if_neg (nI_neg1 (show x < 2 ^ 31 by omega)), if_pos (show up M 3100 s (nI x) 3400 s = 0 from e34)]
  by_cases g : x = 0
  · subst g
    rw [if_pos (show nI 0 ≤ 0 from Int32.le_refl _), if_pos (show nI 0 = 0 from rfl)]
    refine recF hC hM hs h1 hR mK_h34 mK_h31 mK_h32 (fun c i h => ?_) (fun c i a b d => ?_)
    · rw [mK_ho c i h, up_i h]
    · rw [mK_hc c i a b d, up_c b]
  · have nx : ¬ nI x = 0 := nI_ne0 (by omega) (by omega)
    obtain ⟨hCX, hMX⟩ := recX hC hM hs h1 h0 (x := x) ⟨by omega, hx⟩
    rw [if_neg (nI_nle (by omega) (by omega)), if_neg nx]
    have h0X : ¬ up S 206 s (nI x) 206 s = 0 := by rw [up_v]; exact nx
    have hRX : Rex nv nt s (up S 206 s (nI x)) P := by
      intro s' hs' e q1 q2
      rw [up_i e] at q2
      exact hR s' hs' e q1 q2
    have full : Rec nv nt (up S 206 s (nI x)) P := by
      intro s' hs' q1 q2
      by_cases e : s' = s
      · rw [e] at q2; exact absurd q2 h0X
      · exact hRX s' hs' e q1 q2
    have yes : ∀ (v : Int32) (M' : TS), ¬ v = 0 → f6_nextTurn (up M 3100 s (nI x)) (nI s) = some (v, M') → Scr (up M 3100 s (nI x)) M' → f5_hasBoardingTurn (up S 206 s (nI x)) P s = some 1 → ∃ S' P' M', ((f5_hasBoardingTurn (up S 206 s (nI x)) P s).bind fun v11 => if v11 = 0 then k20 (up (up S 206 s (nI x)) 206 s 0) P s else k20 (up S 206 s (nI x)) P s) = some (S', P') ∧ (b2 (f6_hasTurn (up M 3100 s (nI x)) (nI s)) fun v18 M19 => if v18 = 0 then k58 (mK M19 s) s else k58 M19 s) = some M' ∧ CI k ns nc nv nt tn ch S' P' N ∧ MI ns nc nv nt tn bn S' P' M' ∧ Rec nv nt S' P' := by
      intro v M' hv0 hn hsc hh
      rw [hh, hasT hn, if_neg hv0]
      refine ⟨up S 206 s (nI x), P, M', ?_, ?_, hCX, MI_scr hMX hsc, full⟩
      · rw [Option.bind_some, if_neg one_ne]; unfold k20; rw [if_neg h0X]
      · show (if (1 : Int32) = 0 then k58 (mK M' s) s else k58 M' s) = some M'
        rw [if_neg one_ne]; unfold k58
        rw [if_pos (show M' 3400 s = 0 by rw [hsc 3400 s (by decide) (by decide) (by decide) (by decide) (by decide)]; exact e34)]
    rcases nextB hCX hMX hs h1 h0X with ⟨t, M', a1, a2, a3, a4, a5, a6, a7, a8⟩ | ⟨t, M', a1, a2, a3, a4, a5, a6⟩ | ⟨t, M', a1, a2, a3, a4, a5, a6, a7, a8, a9, a10⟩ | ⟨M', a1, a2, a3, a4, a5, a6, a7⟩
    · exact yes 1 M' one_ne a5 a6 a8
    · exact yes 2 M' (by decide) a3 a4 a6
    · exact yes 3 M' (by decide) a7 a8 a10
    · rw [a7, hasT a5, if_pos rfl]
      have hM' := MI_scr hMX a6
      obtain ⟨S2, P2, M2, b1, b2', b3⟩ := recF hCX hM' hs h1 hRX mK_h34 mK_h31 mK_h32 mK_ho mK_hc
      refine ⟨S2, P2, M2, ?_, ?_, b3⟩
      · rw [Option.bind_some, if_pos rfl]; exact b1
      · show (if (0 : Int32) = 0 then k58 (mK M' s) s else k58 M' s) = some M2
        rw [if_pos rfl]; exact b2'
theorem up3_id {P : TP} {c i : Nat} {v : Option Nat} (h : P c i 0 = v) : up3 P c i 0 v = P := by
  funext c' i' j'
  by_cases e : c' = c
  · subst e
    by_cases e2 : i' = i
    · subst e2
      by_cases e3 : j' = 0
      · subst e3; rw [up3_v, h]
      · rw [up3_j e3]
    · rw [up3_i e2]
  · rw [up3_c e]
/-- nothing to do: no recall -/
theorem recA (hC : CI k ns nc nv nt tn ch S P N) (hM : MI ns nc nv nt tn bn S P M) {s : Nat} (hs : s < nv) (h0 : S 206 s = -1) : f5_bringRecallOn S P s = some (S, P) ∧ f6_lookAtRecall M (nI s) = some M := by
  have hv := hC.nv6
  rw [bring5, look6 (by omega), h0, if_pos (by decide), if_pos (by rw [(hM.how s hs).2.2]; exact h0)]
  refine ⟨?_, rfl⟩
  unfold k20; rw [h0, if_neg (by decide)]
/-- after a turn of a recall -/
theorem recE (hC : CI k ns nc nv nt tn ch S P N) (hM : MI ns nc nv nt tn bn S P M) {s : Nat} (hs : s < nv) (h1 : S 204 s = 1) (h0 : S 206 s = 0) (hR : Rex nv nt s S P) : ∃ S' P' M', f5_bringRecallOn S P s = some (S', P') ∧ f6_lookAtRecall M (nI s) = some M' ∧ CI k ns nc nv nt tn ch S' P' N ∧ MI ns nc nv nt tn bn S' P' M' ∧ Rec nv nt S' P' := by
  have hv := hC.nv6
  have p0 := (hC.how s hs).2.2.2 h0
  have e34 : ¬ M 3400 s = 0 := by
    have := hM.off s hs (Or.inr h1)
    rw [if_pos h0] at this; rw [this]; exact one_ne
  have e31 : M 3100 s = 0 := by rw [(hM.how s hs).2.2]; exact h0
  rw [bring5, look6 (by omega), h0, if_pos (by decide), e31, if_neg (by decide), if_neg e34]
  obtain ⟨S', M', a, b, c, d, e⟩ := recD hC hM hs h1 h0 hR
  refine ⟨S', P, M', ?_, ?_, c, d, e⟩
  · unfold k20
    rw [if_pos h0, up3_id p0]; exact a
  · unfold k58; rw [if_neg e34]; exact b
theorem B_recall_ok : B_recall Inv := by
  rintro k S P N M a1 a2 hk ⟨ns, nc, nv, nt, tn, bn, ch, hC, hM, hR⟩
  have hI : Inv (k + 1) S P N M := Inv_up _ _ _ _ _ ⟨ns, nc, nv, nt, tn, bn, ch, hC, hM, hR⟩
  have hv := hC.nv6
  have none_ : (a1 < 0 ∨ nI nv ≤ a1) → ∃ v S' P' M', f5_recall S P a1 a2 = some (v, S', P') ∧ f6_recall M a1 a2 = some (v, M') ∧ Inv (k + 1) S' P' N M' := by
    intro h
    refine ⟨0, S, P, M, ?_, ?_, hI⟩
    · unfold f5_recall; rw [sn_none hC h]; rfl
    · unfold f6_recall; rw [isS_none hM h]; rfl
  rcases pk_ix a1 (n := nv) (by omega) with h | h | ⟨s, hs, rfl⟩
  · exact none_ (Or.inl h)
  · exact none_ (Or.inr h)
  · unfold f5_recall f6_recall
    obtain ⟨m1, m2, m3⟩ := hM.how s hs
    rw [sn_some hC hs, isS_some hM hv hs, isIn_eq]
    simp only [Option.bind_some, Option.elim_some, if_neg one_ne, ix_nI (show s < 60 by omega) (by decide), m1, m3]
    by_cases h1 : S 204 s = 1
    · simp only [if_pos h1]
      by_cases h2 : S 206 s = -1
      · simp only [if_pos h2]
        rcases within_c a2 0 1000 with ⟨w, w1, w2⟩ | ⟨w, -⟩
        · rw [w]
          simp only [Option.bind_some, if_neg one_ne, lt]
          obtain ⟨x, rfl, -, hx⟩ := within_nat (a := 0) (b := 1000) (by decide) (by decide) w1 w2
          obtain ⟨S', P', M', e1, e2, e3, e4, e5⟩ := recB hC hM hs h1 (by rw [h2]; decide) hx (fun s' hs' _ => hR s' hs')
          rw [e1, e2]
          exact ⟨1, S', P', M', rfl, rfl, Inv_up _ _ _ _ _ ⟨ns, nc, nv, nt, tn, bn, ch, e3, e4, e5⟩⟩
        · rw [w]; exact ⟨_, _, _, _, rfl, rfl, hI⟩
      · simp only [if_neg h2]; exact ⟨_, _, _, _, rfl, rfl, hI⟩
    · simp only [if_neg h1]; exact ⟨_, _, _, _, rfl, rfl, hI⟩
end RECALL
