/-! appending: sailing, cabin, ship -/
section NEW
variable {k ns nc nv nt tn bn : Nat} {ch : Nat → Nat → List Nat} {S : TS} {P : TP} {N : TN} {M : TS}
theorem cnt_zero {p : Nat → Bool} : ∀ {n : Nat}, (∀ k, k < n → p k = false) → cnt p n = 0
  | 0, _ => rfl
  | n + 1, h => by simp only [cnt]; rw [cnt_zero (fun k hk => h k (by omega)), h n (by omega)]; rfl
theorem linked_congr {b b' : Nat → Nat → Option Nat} : ∀ {l : List Nat} {r : Option Nat}, (∀ t ∈ l, b' t 0 = b t 0) → linked b r l → linked b' r l
  | [], _, _, h => h
  | t :: l, _, hb, h => ⟨h.1, by rw [hb t (List.mem_cons_self ..)]; exact linked_congr (fun t ht => hb t (List.mem_cons_of_mem _ ht)) h.2⟩
theorem contig_congr {pl ln pl' ln' : Nat → Int32} : ∀ {l : List Nat} {p : Nat}, (∀ t ∈ l, pl' t = pl t ∧ ln' t = ln t) → contig pl ln p l → contig pl' ln' p l
  | [], _, _, h => h
  | t :: l, _, hb, h => by
    obtain ⟨e1, e2⟩ := hb t (List.mem_cons_self ..)
    refine ⟨by rw [e1]; exact h.1, ?_⟩
    rw [e2]; exact contig_congr (fun t ht => hb t (List.mem_cons_of_mem _ ht)) h.2
theorem total_congr {ln ln' : Nat → Int32} : ∀ {l : List Nat}, (∀ t ∈ l, ln' t = ln t) → total ln' l = total ln l
  | [], _ => rfl
  | t :: l, hb => by simp only [total]; rw [hb t (List.mem_cons_self ..), total_congr (fun t ht => hb t (List.mem_cons_of_mem _ ht))]
theorem CI.st3 (hC : CI k ns nc nv nt tn ch S P N) {t : Nat} (ht : t < nt) : st P t < ns := hC.s3 (hC.t5 ht)
theorem cb_st {P' : TP} (hst : ∀ t, t < nt → st P' t = st P t) (hcs : ∀ c, c < nc → cs P' c = cs P c) (h : CI_cb nc nt S P) : CI_cb nc nt S P' := by
  intro t ht h3
  rcases h t ht h3 with e | ⟨c, h1, h2, h4⟩
  · exact Or.inl e
  · exact Or.inr ⟨c, h1, h2, by rw [hcs c h1, hst t ht, h4]⟩
theorem std_st {P' : TP} (hst : ∀ t, t < nt → st P' t = st P t) (h : CI_std ns nt S P) : CI_std ns nt S P' := by
  intro i hi
  rw [h i hi]
  exact congrArg nI (cnt_congr (fun t ht => by rw [hst t ht]))
theorem mem_st {P' : TP} (hst : ∀ t, t < nt → st P' t = st P t) (h : CI_mem ns nt ch S P) : CI_mem ns nt ch S P' := by
  intro i j t hi hj
  rw [h i j t hi hj]
  constructor
  · rintro ⟨a, b, c, d⟩; exact ⟨a, b, by rw [hst t a]; exact c, d⟩
  · rintro ⟨a, b, c, d⟩; exact ⟨a, b, by rw [← hst t a]; exact c, d⟩
theorem dl_st {P' : TP} (hst : ∀ t, t < nt → st P' t = st P t) (h : CI_dl nt S P) : CI_dl nt S P' := by
  intro t ht h3
  obtain ⟨d, l, a, b, c, e⟩ := h t ht h3
  exact ⟨d, l, a, b, by rw [hst t ht]; exact c, by rw [hst t ht]; exact e⟩
def sNs (S : TS) (nv : Nat) (n a2 a3 : Int32) : TS := up (up (up (up (up (up (clr S 2 nv) 204 nv 0) 206 nv (-1)) 200 nv n) 202 nv a2) 203 nv a3) 505 0 (n + 1)
def pNs (P : TP) (nv h : Nat) : TP := up3 (up3 (clrP P 2 nv) 201 nv 0 (some h)) 900 0 nv (some nv)
theorem sNs_o {nv s : Nat} {n a2 a3 : Int32} (h : s ≠ nv) (c : Nat) (hc : c ≠ 505) : sNs S nv n a2 a3 c s = S c s := by
  unfold sNs
  rw [up_c hc, up_i h, up_i h, up_i h, up_i h, up_i h]
  unfold clr; rw [if_neg (fun q => h q.2)]
theorem pNs_o {nv h s : Nat} (hs : s ≠ nv) (c j : Nat) (hc : c ≠ 900) : pNs P nv h c s j = P c s j := by
  unfold pNs
  rw [up3_c hc, up3_i hs]
  unfold clrP; rw [if_neg (fun q => hs q.2)]
theorem vs_pNs {nv h s : Nat} : vs (pNs P nv h) s = if s = nv then h else vs P s := by
  by_cases e : s = nv
  · rw [if_pos e, e]; show ((up3 (clrP P 2 nv) 201 nv 0 (some h)) 201 nv 0).getD 0 = h; rw [up3_v]; rfl
  · rw [if_neg e]; unfold vs; rw [pNs_o e 201 0 (by decide)]
theorem lies (hC : CI k ns nc nv nt tn ch S P N) (hM : MI ns nc nv nt tn bn S P M) {h : Nat} (hh : h < ns) (a2 a3 : Int32) (K : Option (Int32 × TS)) : ∀ (n i : Nat), i ≤ nv → nv < i + n → (f5_liesTooNear_2 (some 0) S P h a2 n (nI i) = some 0 ∧ f6_sailing_42 K M (nI h) a2 a3 n (nI i) = K) ∨ (f5_liesTooNear_2 (some 0) S P h a2 n (nI i) = some 1 ∧ f6_sailing_42 K M (nI h) a2 a3 n (nI i) = some (-1, M)) := by
  have hv := hC.nv6
  have hns := hC.ns1
  intro n
  induction n with
  | zero => intro i h1 h2; omega
  | succ n ih =>
    intro i h1 h2
    rw [f5_liesTooNear_2, f6_sailing_42, hC.c5, hM.cnt.2.2.1]
    rcases Nat.lt_or_ge i nv with hi | hi
    · have hsh := hC.s3 hi
      rw [if_neg (nI_ge hi (by omega)), if_neg (nI_ge hi (by omega)), ix_nI (by omega) (by decide)]
      simp only [Option.bind_some, lt, hC.s9 hi, hC.s2 hi, some_eq, (hM.sail i hi).1, (hM.sail i hi).2.1, (hM.how i hi).1, show (nI (vs P i) = nI h) = (vs P i = h) from propext (nI_eq (by omega) (by omega)), nI_1]
      have next := ih (i + 1) (by omega) (by omega)
      by_cases e1 : vs P i = h
      · simp only [if_pos e1]
        by_cases e2 : S 204 i = 3
        · simp only [if_pos e2]; exact next
        · simp only [if_neg e2]
          generalize (if 0 ≤ S 202 i - a2 then S 202 i - a2 else 0 - (S 202 i - a2)) = x
          by_cases e3 : 90 ≤ x
          · simp only [if_pos e3]; exact next
          · simp only [if_neg e3]; exact Or.inr ⟨by simp, by simp⟩
      · simp only [if_neg e1]
        exact next
    · have : i = nv := by omega
      subst this
      rw [if_pos (Int32.le_refl _), if_pos (Int32.le_refl _)]
      exact Or.inl ⟨rfl, rfl⟩
def mNs (M : TS) (nv : Nat) (a1 a2 a3 : Int32) : TS := up (up (up (up (up (up M 622 0 (nI nv + 1)) 2600 nv a1) 2700 nv a2) 2800 nv a3) 3100 nv (-1)) 3200 nv (-1)
theorem CI_sNs (hC : CI k ns nc nv nt tn ch S P N) (hnv : nv < 60) {h : Nat} (hh : h < ns) (a2 a3 : Int32) : CI k ns nc (nv + 1) nt tn ch (sNs S nv (nI nv) a2 a3) (pNs P nv h) (upN N 2) := by
  have hst : ∀ t, t < nt → st (pNs P nv h) t = st P t := fun t ht => by
    have : sl (pNs P nv h) t = sl P t := rfl
    unfold st; rw [this, vs_pNs, if_neg (by have := hC.t5 ht; omega)]
  refine ⟨⟨⟨hC.c1, hC.c3, nI_1 nv, hC.c7⟩, ⟨hC.ns1, hC.nc1, by omega, hC.nt4⟩, ?_⟩, hC.ship, hC.cab, hC.cabn, ?_, ?_, ?_, ?_, ?_, ?_, cb_st hst (fun _ _ => rfl) hC.cb, hC.tk, hC.uq, std_st hst hC.std, hC.turn, hC.brd, hC.lnk, mem_st hst hC.mem, dl_st hst hC.dl, hC.ctg⟩
  · obtain ⟨a, b, c, d, e⟩ := hC.cnt.2.2
    exact ⟨a, b, c, by show N 2 + 1 = _; rw [d], e⟩
  · intro s hs
    by_cases e : s = nv
    · subst e
      refine ⟨by unfold pNs; rw [up3_v], ?_, ?_, ?_⟩
      · show up (up (up (clr S 2 s) 204 s 0) 206 s (-1)) 200 s (nI s) 200 s = _; rw [up_v]
      · rw [vs_pNs, if_pos rfl]; show up3 (clrP P 2 s) 201 s 0 (some h) 201 s 0 = _; rw [up3_v]
      · rw [vs_pNs, if_pos rfl]; exact hh
    · obtain ⟨a, b, c, d⟩ := hC.sail s (by omega)
      refine ⟨?_, by rw [sNs_o e 200 (by decide)]; exact b, by rw [vs_pNs, if_neg e, pNs_o e 201 0 (by decide)]; exact c, by rw [vs_pNs, if_neg e]; exact d⟩
      unfold pNs; rw [show ∀ Q : TP, up3 Q 900 0 nv (some nv) 900 0 s = Q 900 0 s from fun Q => by unfold up3; rw [if_pos rfl, if_pos rfl]; exact va_up_ne _ _ e]; exact a
  · intro s hs
    by_cases e : s = nv
    · subst e
      have e4 : sNs S s (nI s) a2 a3 204 s = 0 := by show up (clr S 2 s) 204 s 0 204 s = 0; rw [up_v]
      have e6 : sNs S s (nI s) a2 a3 206 s = -1 := by show up (up (clr S 2 s) 204 s 0) 206 s (-1) 206 s = -1; rw [up_v]
      rw [e4, e6]
      exact ⟨Or.inl rfl, Or.inl rfl, fun _ => rfl, fun q => absurd q (by decide)⟩
    · rw [sNs_o e 204 (by decide), sNs_o e 206 (by decide), pNs_o e 207 0 (by decide)]
      exact hC.how s (by omega)
  · have e4 : sNs S nv (nI nv) a2 a3 204 nv = 0 := by show up (clr S 2 nv) 204 nv 0 204 nv = 0; rw [up_v]
    intro s s' hs hs' h1 h2 h3
    by_cases e : s = nv
    · rw [e, e4] at h1; exact absurd h1 (by decide)
    · by_cases e' : s' = nv
      · rw [e', e4] at h2; exact absurd h2 (by decide)
      · rw [sNs_o e 204 (by decide)] at h1
        rw [sNs_o e' 204 (by decide)] at h2
        rw [vs_pNs, vs_pNs, if_neg e, if_neg e'] at h3
        exact hC.one s s' (by omega) (by omega) h1 h2 h3
  · intro s t hs hp
    by_cases e : s = nv
    · subst e
      have : pNs P s h 207 s 0 = none := by show clrP P 2 s 207 s 0 = none; unfold clrP; rw [if_pos ⟨by decide, rfl⟩]
      rw [this] at hp; exact absurd hp (by simp)
    · rw [pNs_o e 207 0 (by decide)] at hp
      rw [sNs_o e 204 (by decide), sNs_o e 208 (by decide)]
      exact hC.ramp s t (by omega) hp
  · intro t ht
    obtain ⟨a, b, c, d, e⟩ := hC.tick t ht
    exact ⟨a, b, c, Nat.lt_succ_of_lt d, e⟩
  · intro t ht h3
    have := hC.t5 ht
    show sNs S nv (nI nv) a2 a3 204 (sl P t) = 1
    rw [sNs_o (by omega) 204 (by decide)]; exact hC.ab t ht h3
theorem MI_sNs (hC : CI k ns nc nv nt tn ch S P N) (hM : MI ns nc nv nt tn bn S P M) {h : Nat} (a2 a3 : Int32) : MI ns nc (nv + 1) nt tn bn (sNs S nv (nI nv) a2 a3) (pNs P nv h) (mNs M nv (nI h) a2 a3) := by
  refine ⟨⟨hM.cnt.1, hM.cnt.2.1, nI_1 nv, hM.cnt.2.2.2⟩, hM.ship, hM.cab, ?_, ?_, ?_, ?_, hM.tick, hM.turn, hM.brd, hM.log, ?_⟩
  · intro s hs
    by_cases e : s = nv
    · subst e
      refine ⟨?_, ?_, ?_⟩
      · rw [vs_pNs, if_pos rfl]; show up (up M 622 0 (nI s + 1)) 2600 s (nI h) 2600 s = _; rw [up_v]
      · show up (up (up M 622 0 (nI s + 1)) 2600 s (nI h)) 2700 s a2 2700 s = up (up (up (up (clr S 2 s) 204 s 0) 206 s (-1)) 200 s (nI s)) 202 s a2 202 s; rw [up_v, up_v]
      · show up (up (up (up M 622 0 (nI s + 1)) 2600 s (nI h)) 2700 s a2) 2800 s a3 2800 s = up (up (up (up (up (clr S 2 s) 204 s 0) 206 s (-1)) 200 s (nI s)) 202 s a2) 203 s a3 203 s; rw [up_v, up_v]
    · obtain ⟨a, b, c⟩ := hM.sail s (by omega)
      rw [vs_pNs, if_neg e, sNs_o e 202 (by decide), sNs_o e 203 (by decide)]
      refine ⟨?_, ?_, ?_⟩
      · show up (up M 622 0 (nI nv + 1)) 2600 nv (nI h) 2600 s = _; rw [up_i e]; exact a
      · show up (up (up M 622 0 (nI nv + 1)) 2600 nv (nI h)) 2700 nv a2 2700 s = _; rw [up_i e]; exact b
      · show up (up (up (up M 622 0 (nI nv + 1)) 2600 nv (nI h)) 2700 nv a2) 2800 nv a3 2800 s = _; rw [up_i e]; exact c
  · intro s hs
    by_cases e : s = nv
    · subst e
      obtain ⟨a, b, c, d⟩ := hM.new s (Nat.le_refl _)
      refine ⟨?_, ?_, ?_⟩
      · show M 2900 s = up (clr S 2 s) 204 s 0 204 s; rw [up_v]; exact a
      · show M 3000 s = clr S 2 s 205 s; unfold clr; rw [if_pos ⟨by decide, rfl⟩]; exact b
      · show up (up (up (up (up M 622 0 (nI s + 1)) 2600 s (nI h)) 2700 s a2) 2800 s a3) 3100 s (-1) 3100 s = up (up (clr S 2 s) 204 s 0) 206 s (-1) 206 s; rw [up_v, up_v]
    · obtain ⟨a, b, c⟩ := hM.how s (by omega)
      rw [sNs_o e 204 (by decide), sNs_o e 205 (by decide), sNs_o e 206 (by decide)]
      refine ⟨a, b, ?_⟩
      show up (up (up (up (up M 622 0 (nI nv + 1)) 2600 nv (nI h)) 2700 nv a2) 2800 nv a3) 3100 nv (-1) 3100 s = _; rw [up_i e]; exact c
  · intro s hs g
    by_cases e : s = nv
    · subst e
      obtain ⟨a, b, c, d⟩ := hM.new s (Nat.le_refl _)
      have e6 : sNs S s (nI s) a2 a3 206 s = -1 := by show up (up (clr S 2 s) 204 s 0) 206 s (-1) 206 s = -1; rw [up_v]
      rw [e6]; show M 3400 s = _; rw [d]; decide
    · rw [sNs_o e 204 (by decide)] at g
      rw [sNs_o e 206 (by decide)]
      exact hM.off s (by omega) g
  · intro s hs
    by_cases e : s = nv
    · subst e
      have e7 : pNs P s h 207 s 0 = none := by show clrP P 2 s 207 s 0 = none; unfold clrP; rw [if_pos ⟨by decide, rfl⟩]
      rw [e7]
      refine ⟨?_, fun q => absurd rfl q⟩
      show up (up (up (up (up (up M 622 0 (nI s + 1)) 2600 s (nI h)) 2700 s a2) 2800 s a3) 3100 s (-1)) 3200 s (-1) 3200 s = -1; rw [up_v]
    · rw [pNs_o e 207 0 (by decide), sNs_o e 208 (by decide)]
      obtain ⟨a, b⟩ := hM.ramp s (by omega)
      refine ⟨?_, b⟩
      show up (up (up (up (up (up M 622 0 (nI nv + 1)) 2600 nv (nI h)) 2700 nv a2) 2800 nv a3) 3100 nv (-1)) 3200 nv (-1) 3200 s = _; rw [up_i e]; exact a
  · intro s hs; exact hM.new s (by omega)
theorem B_sailing_ok : B_sailing Inv := by
  rintro k S P N M a1 a2 a3 hk ⟨ns, nc, nv, nt, tn, bn, ch, hC, hM, hR⟩
  have hI : Inv (k + 1) S P N M := Inv_up _ _ _ _ _ ⟨ns, nc, nv, nt, tn, bn, ch, hC, hM, hR⟩
  have hns := hC.ns1
  have hv := hC.nv6
  have none_ : (a1 < 0 ∨ nI ns ≤ a1) → ∃ v S' P' N' M', f5_sailing S P N a1 a2 a3 = some (v, S', P', N') ∧ f6_sailing M a1 a2 a3 = some (v, M') ∧ Inv (k + 1) S' P' N' M' := by
    intro h
    refine ⟨-1, S, P, N, M, ?_, ?_, hI⟩
    · unfold f5_sailing; rw [pn_none hC h]; rfl
    · unfold f6_sailing; rw [isP_none hM h]; rfl
  rcases pk_ix a1 (n := ns) (by omega) with h | h | ⟨h, hh, rfl⟩
  · exact none_ (Or.inl h)
  · exact none_ (Or.inr h)
  · unfold f5_sailing f6_sailing
    have n2 : N 2 = nv := hC.cnt.2.2.2.2.2.1
    rw [pn_some hC hh, isP_some hM hns hh, isIn_eq, isIn_eq, hC.c5, hM.cnt.2.2.1]
    simp only [Option.bind_some, Option.elim_some, if_neg one_ne]
    have full : nv = 60 → ∃ v S' P' N' M', (some ((-1 : Int32), S, P, N)) = some (v, S', P', N') ∧ ((f5_within a2 0 100000).bind fun v3 => if v3 = 0 then some ((-1 : Int32), M) else (f5_within a3 0 7).bind fun v5 => if v5 = 0 then some (-1, M) else some (-1, M)) = some (v, M') ∧ Inv (k + 1) S' P' N' M' := by
      intro _
      refine ⟨-1, S, P, N, M, rfl, ?_, hI⟩
      rcases within_c a2 0 100000 with ⟨h1, -⟩ | ⟨h1, -⟩ <;> rw [h1] <;> simp only [Option.bind_some, if_neg one_ne]
      · rcases within_c a3 0 7 with ⟨h2, -⟩ | ⟨h2, -⟩ <;> rw [h2] <;> simp
      · simp
    rcases Nat.lt_or_ge nv 60 with hv1 | hv1
    · rw [if_neg (show ¬ (60 : Int32) ≤ nI nv from nI_ge (b := 60) hv1 (by decide)), if_neg (show ¬ nI nv = (60 : Int32) from fun e => by have := nI_inj (b := 60) (by omega) (by decide) e; omega)]
      rcases within_c a2 0 100000 with ⟨h1, -⟩ | ⟨h1, -⟩
      · rw [h1]
        simp only [Option.bind_some, if_neg one_ne]
        rcases within_c a3 0 7 with ⟨h2, -⟩ | ⟨h2, -⟩
        · rw [h2]
          simp only [Option.bind_some, if_neg one_ne]
          unfold f5_liesTooNear
          rcases lies hC hM hh a2 a3 (some (nI nv, mNs M nv (nI h) a2 a3)) FU 0 (by omega) (by rw [FU_eq]; omega) with ⟨g5, g6⟩ | ⟨g5, g6⟩
          · rw [show f5_liesTooNear_2 (some 0) S P h a2 FU 0 = some 0 from g5]
            simp only [Option.bind_some, if_true]
            refine ⟨nI nv, sNs S nv (nI nv) a2 a3, pNs P nv h, upN N 2, mNs M nv (nI h) a2 a3, ?_, ?_, Inv_up _ _ _ _ _ ⟨ns, nc, nv + 1, nt, tn, bn, ch, CI_sNs hC hv1 hh a2 a3, MI_sNs hC hM a2 a3, ?_⟩⟩
            · rw [n2, ix_nI hv1 (by decide)]
              show some ((S 505 0), sNs S nv (S 505 0) a2 a3, _, _) = _
              rw [hC.c5]; rfl
            · rw [← g6, ix_nI hv1 (by decide)]; rfl
            · intro s hs q1 q2
              by_cases e : s = nv
              · subst e
                have e4 : sNs S s (nI s) a2 a3 204 s = 0 := by show up (clr S 2 s) 204 s 0 204 s = 0; rw [up_v]
                rw [e4] at q1; exact absurd q1 (by decide)
              · rw [sNs_o e 204 (by decide)] at q1
                rw [sNs_o e 206 (by decide)] at q2
                exact hR s (by omega) q1 q2
          · rw [show f5_liesTooNear_2 (some 0) S P h a2 FU 0 = some 1 from g5]
            simp only [Option.bind_some, if_neg one_ne]
            refine ⟨-1, S, P, N, M, rfl, ?_, hI⟩
            rw [← g6, ix_nI hv1 (by decide)]; rfl
        · rw [h2]; exact ⟨_, _, _, _, _, rfl, rfl, hI⟩
      · rw [h1]; exact ⟨_, _, _, _, _, rfl, rfl, hI⟩
    · have : nv = 60 := by omega
      subst this
      rw [if_pos (show (60 : Int32) ≤ nI 60 from Int32.le_refl _), if_pos (show nI 60 = (60 : Int32) from rfl)]
      exact full rfl
end NEW
