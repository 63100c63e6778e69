/-! appending: cabin, ship -/
section NEWB
variable {k ns nc nv nt tn bn : Nat} {ch : Nat → Nat → List Nat} {S : TS} {P : TP} {N : TN} {M : TS}
def sNc (S : TS) (nc h : Nat) (n a2 : Int32) : TS := up (up (up (clr S 1 nc) 101 nc a2) 305 h (S 305 h + 1)) 503 0 (n + 1)
def pNc (P : TP) (nc h : Nat) : TP := up3 (up3 (clrP P 1 nc) 100 nc 0 (some h)) 800 0 nc (some nc)
theorem sNc_o {nc h s : Nat} {n a2 : Int32} (e : s ≠ nc) (c : Nat) (hc : c ≠ 503) (hc2 : c ≠ 305) : sNc S nc h n a2 c s = S c s := by
  unfold sNc
  rw [up_c hc, up_c hc2, up_i e]
  unfold clr; rw [if_neg (fun q => e q.2)]
theorem cs_pNc {nc h c : Nat} : cs (pNc P nc h) c = if c = nc then h else cs P c := by
  by_cases e : c = nc
  · rw [if_pos e, e]; show ((up3 (clrP P 1 nc) 100 nc 0 (some h)) 100 nc 0).getD 0 = h; rw [up3_v]; rfl
  · rw [if_neg e]; show ((up3 (clrP P 1 nc) 100 nc 0 (some h)) 100 c 0).getD 0 = _; rw [up3_i e]; unfold clrP; rw [if_neg (fun q => e q.2)]; rfl
theorem up3_j {P : TP} {c i j j' : Nat} {v : Option Nat} (h : j' ≠ j) : up3 P c i j v c i j' = P c i j' := by
  unfold up3; rw [if_pos rfl, if_pos rfl]; exact va_up_ne _ _ h
theorem CI_sNc (hC : CI k ns nc nv nt tn ch S P N) (hnc : nc < 120) {h : Nat} (hh : h < ns) (a2 : Int32) : CI k ns (nc + 1) nv nt tn ch (sNc S nc h (nI nc) a2) (pNc P nc h) (upN N 1) := by
  refine ⟨⟨⟨hC.c1, nI_1 nc, hC.c5, hC.c7⟩, ⟨hC.ns1, by omega, hC.nv6, hC.nt4⟩, ?_⟩, hC.ship, ?_, ?_, hC.sail, hC.how, hC.one, hC.ramp, hC.tick, hC.ab, ?_, ?_, hC.uq, hC.std, hC.turn, hC.brd, hC.lnk, hC.mem, hC.dl, hC.ctg⟩
  · obtain ⟨a, b, c, d, e⟩ := hC.cnt.2.2
    exact ⟨a, b, by show N 1 + 1 = _; rw [c], d, e⟩
  · intro c hc
    by_cases e : c = nc
    · subst e
      refine ⟨by unfold pNc; rw [up3_v], ?_, ?_, ?_⟩
      · rw [cs_pNc, if_pos rfl]; show up3 (clrP P 1 c) 100 c 0 (some h) 100 c 0 = _; rw [up3_v]
      · rw [cs_pNc, if_pos rfl]; exact hh
      · left; show clr S 1 c 102 c = 0; unfold clr; rw [if_pos ⟨by decide, rfl⟩]
    · obtain ⟨a, b, c', d⟩ := hC.cab c (by omega)
      rw [cs_pNc, if_neg e, sNc_o e 102 (by decide) (by decide)]
      refine ⟨?_, ?_, c', d⟩
      · unfold pNc; rw [up3_j e]; exact a
      · show up3 (clrP P 1 nc) 100 nc 0 (some h) 100 c 0 = _; rw [up3_i e]; unfold clrP; rw [if_neg (fun q => e q.2)]; exact b
  · intro i hi
    show up (up (clr S 1 nc) 101 nc a2) 305 h (S 305 h + 1) 305 i = _
    rw [up_eq]
    have hb := cnt_le (fun c => decide (cs P c = i)) nc
    have hnc' := hC.nc1
    simp only [cnt]
    rw [cnt_congr (q := fun c => decide (cs P c = i)) (fun c hc => by rw [cs_pNc, if_neg (by omega)])]
    have ec : cs (pNc P nc h) nc = h := by rw [cs_pNc, if_pos rfl]
    simp only [ec]
    by_cases e : i = h
    · subst e
      rw [if_pos rfl, hC.cabn i hi, nI_1]; simp
    · rw [if_neg e]
      show S 305 i = _
      rw [hC.cabn i hi]; simp [show ¬ h = i from fun q => e q.symm]
  · intro t ht h3
    rcases hC.cb t ht h3 with e | ⟨c, h1, h2, h4⟩
    · exact Or.inl e
    · exact Or.inr ⟨c, by omega, h2, by rw [cs_pNc, if_neg (by omega)]; exact h4⟩
  · intro c hc
    by_cases e : c = nc
    · subst e
      have e2 : sNc S c h (nI c) a2 102 c = 0 := by show clr S 1 c 102 c = 0; unfold clr; rw [if_pos ⟨by decide, rfl⟩]
      rw [e2]
      constructor
      · intro q; exact absurd q (by decide)
      · rintro ⟨t, ht, h3, h4⟩
        have h4' : S 411 t = nI c := h4
        rcases hC.cb t ht h3 with g | ⟨c', h1, h2, -⟩
        · rw [g] at h4'; exact absurd h4'.symm (nI_neg1 (by omega))
        · rw [h2] at h4'; have := nI_inj (by omega) (by omega) h4'; omega
    · rw [sNc_o e 102 (by decide) (by decide)]
      exact hC.tk c (by omega)
theorem B_cabin_ok : B_cabin Inv := by
  rintro k S P N M a1 a2 hk ⟨ns, nc, nv, nt, tn, bn, ch, hC, hM, hR⟩
  have hI : Inv (k + 1) S P N M := Inv_up _ _ _ _ _ ⟨ns, nc, nv, nt, tn, bn, ch, hC, hM, hR⟩
  have hns := hC.ns1
  have hn := hC.nc1
  have none_ : (a1 < 0 ∨ nI ns ≤ a1) → ∃ v S' P' N' M', f5_cabin S P N a1 a2 = some (v, S', P', N') ∧ f6_cabin M a1 a2 = some (v, M') ∧ Inv (k + 1) S' P' N' M' := by
    intro h
    refine ⟨-1, S, P, N, M, ?_, ?_, hI⟩
    · unfold f5_cabin; rw [pn_none hC h]; rfl
    · unfold f6_cabin; rw [isP_none hM h]; rfl
  rcases pk_ix a1 (n := ns) (by omega) with h | h | ⟨h, hh, rfl⟩
  · exact none_ (Or.inl h)
  · exact none_ (Or.inr h)
  · unfold f5_cabin f6_cabin
    have n1 : N 1 = nc := hC.cnt.2.2.2.2.1
    rw [pn_some hC hh, isP_some hM hns hh, isIn_eq, hC.c3, hM.cnt.2.1]
    simp only [Option.bind_some, Option.elim_some, if_neg one_ne]
    rcases Nat.lt_or_ge nc 120 with hv1 | hv1
    · rw [if_neg (show ¬ (120 : Int32) ≤ nI nc from nI_ge (b := 120) hv1 (by decide)), if_neg (show ¬ nI nc = (120 : Int32) from fun e => by have := nI_inj (b := 120) (by omega) (by decide) e; omega)]
      rcases within_c a2 1 6 with ⟨h1, -⟩ | ⟨h1, -⟩
      · rw [h1]
        simp only [Option.bind_some, if_neg one_ne]
        refine ⟨nI nc, sNc S nc h (nI nc) a2, pNc P nc h, upN N 1, up (up (up M 2400 nc (nI h)) 2500 nc a2) 621 0 (nI nc + 1), ?_, ?_, Inv_up _ _ _ _ _ ⟨ns, nc + 1, nv, nt, tn, bn, ch, CI_sNc hC hv1 hh a2, ?_, hR⟩⟩
        · rw [n1, ix_nI hv1 (by decide)]
          show some ((S 503 0), sNc S nc h (S 503 0) a2, _, _) = _
          rw [hC.c3]; rfl
        · rw [ix_nI hv1 (by decide)]
          show (ix (M 621 0) 120).bind (fun j7 => some (up (up (up M 2400 nc (nI h)) 2500 j7 a2) 621 0 (M 621 0 + 1) 621 0 - 1, up (up (up M 2400 nc (nI h)) 2500 j7 a2) 621 0 (M 621 0 + 1))) = _
          rw [hM.cnt.2.1, ix_nI hv1 (by decide)]
          simp only [Option.bind_some, up_v, nI_1]
          rw [nI_sub1 (by omega)]; rfl
        · refine ⟨⟨hM.cnt.1, nI_1 nc, hM.cnt.2.2.1, hM.cnt.2.2.2⟩, hM.ship, ?_, hM.sail, hM.how, hM.off, hM.ramp, hM.tick, hM.turn, hM.brd, hM.log, hM.new⟩
          intro c hc
          show up M 2400 nc (nI h) 2400 c = _ ∧ up (up M 2400 nc (nI h)) 2500 nc a2 2500 c = up (clr S 1 nc) 101 nc a2 101 c
          by_cases e : c = nc
          · subst e; rw [up_v, up_v, up_v, cs_pNc, if_pos rfl]; exact ⟨rfl, rfl⟩
          · simp only [up_i e, cs_pNc, if_neg e]
            obtain ⟨a, b⟩ := hM.cab c (by omega)
            refine ⟨a, ?_⟩
            unfold clr; rw [if_neg (fun q => e q.2)]; exact b
      · rw [h1]; exact ⟨_, _, _, _, _, rfl, rfl, hI⟩
    · have : nc = 120 := by omega
      subst this
      rw [if_pos (show (120 : Int32) ≤ nI 120 from Int32.le_refl _), if_pos (show nI 120 = (120 : Int32) from rfl)]
      refine ⟨-1, S, P, N, M, rfl, ?_, hI⟩
      rcases within_c a2 1 6 with ⟨h1, -⟩ | ⟨h1, -⟩ <;> rw [h1] <;> simp
def sNp (S : TS) (ns : Nat) (n a1 a2 a3 a4 : Int32) : TS := up (up (up (up (up (up (up (clr S 3 ns) 300 ns n) 301 ns a1) 302 ns a2) 303 ns a3) 304 ns a4) 1499 ns (a1 * a2)) 501 0 (n + 1)
def pNp (P : TP) (ns : Nat) : TP := up3 (up3 (clrP (clrP P 3 ns) 14 ns) 307 ns 0 (some ns)) 700 0 ns (some ns)
theorem sNp_o {ns s : Nat} {n a1 a2 a3 a4 : Int32} (e : s ≠ ns) (c : Nat) (hc : c ≠ 501) : sNp S ns n a1 a2 a3 a4 c s = S c s := by
  unfold sNp
  rw [up_c hc, up_i e, up_i e, up_i e, up_i e, up_i e, up_i e]
  unfold clr; rw [if_neg (fun q => e q.2)]
theorem pNp_o {ns s : Nat} (e : s ≠ ns) (c j : Nat) (hc : c ≠ 700) : pNp P ns c s j = P c s j := by
  unfold pNp
  rw [up3_c hc, up3_i e]
  unfold clrP; rw [if_neg (fun q => e q.2), if_neg (fun q => e q.2)]
def chN (ch : Nat → Nat → List Nat) (ns : Nat) : Nat → Nat → List Nat := fun i j => if i = ns then [] else ch i j
theorem CI_sNp (hC : CI k ns nc nv nt tn ch S P N) (hns : ns < 12) {d l n : Nat} (hd : 1 ≤ d ∧ d ≤ 4) (hl : 1 ≤ l ∧ l ≤ 6) (hn : 50 ≤ n ∧ n ≤ 2000) (a4 : Int32) (h4 : a4 = 0 ∨ a4 = 1) : CI k (ns + 1) nc nv nt tn (chN ch ns) (sNp S ns (nI ns) (nI d) (nI l) (nI n) a4) (pNp P ns) (upN (upN N 3) 14) := by
  obtain ⟨⟨c1, c3, c5, c7⟩, ⟨b1, b3, b5, b7⟩, N3, N14, N1, N2, N4⟩ := hC.cnt
  have e99 : sNp S ns (nI ns) (nI d) (nI l) (nI n) a4 1499 ns = nI (d * l) := by
    show up (up (up (up (up (up (clr S 3 ns) 300 ns (nI ns)) 301 ns (nI d)) 302 ns (nI l)) 303 ns (nI n)) 304 ns a4) 1499 ns (nI d * nI l) 1499 ns = _
    rw [up_v, pk_mul]
  have lst : ∀ t, t < nt → ¬ st P t = ns := fun t ht e => by have := hC.st3 ht; omega
  refine ⟨⟨⟨nI_1 ns, c3, c5, c7⟩, ⟨by omega, b3, b5, b7⟩, ⟨by show N 3 + 1 = _; rw [N3], by show N 14 + 1 = _; rw [N14], N1, N2, N4⟩⟩, ?_, ?_, ?_, ?_, hC.how, hC.one, hC.ramp, hC.tick, hC.ab, hC.cb, hC.tk, hC.uq, ?_, hC.turn, hC.brd, ?_, ?_, ?_, ?_⟩
  · intro i hi
    by_cases e : i = ns
    · subst e
      refine ⟨by unfold pNp; rw [up3_v], ?_, ?_, ⟨d, l, n, ?_, ?_, ?_, hd.1, hd.2, hl.1, hl.2, hn.1, hn.2, e99⟩, ?_⟩
      · show up3 (clrP (clrP P 3 i) 14 i) 307 i 0 (some i) 307 i 0 = _; rw [up3_v]
      · show up (clr S 3 i) 300 i (nI i) 300 i = _; rw [up_v]
      · show up (up (clr S 3 i) 300 i (nI i)) 301 i (nI d) 301 i = _; rw [up_v]
      · show up (up (up (clr S 3 i) 300 i (nI i)) 301 i (nI d)) 302 i (nI l) 302 i = _; rw [up_v]
      · show up (up (up (up (clr S 3 i) 300 i (nI i)) 301 i (nI d)) 302 i (nI l)) 303 i (nI n) 303 i = _; rw [up_v]
      · have : sNp S i (nI i) (nI d) (nI l) (nI n) a4 304 i = a4 := by
          show up (up (up (up (up (clr S 3 i) 300 i (nI i)) 301 i (nI d)) 302 i (nI l)) 303 i (nI n)) 304 i a4 304 i = _; rw [up_v]
        rw [this]; exact h4
    · rw [pNp_o e 307 0 (by decide), sNp_o e 300 (by decide), sNp_o e 301 (by decide), sNp_o e 302 (by decide), sNp_o e 303 (by decide), sNp_o e 304 (by decide), sNp_o e 1499 (by decide)]
      obtain ⟨a, b⟩ := hC.ship i (by omega)
      refine ⟨?_, b⟩
      unfold pNp; rw [up3_j e]; exact a
  · intro c hc
    obtain ⟨a, b, c', d'⟩ := hC.cab c hc
    exact ⟨a, b, Nat.lt_succ_of_lt c', d'⟩
  · intro i hi
    by_cases e : i = ns
    · subst e
      rw [cnt_zero (fun c hc => decide_eq_false (fun q => by have := (hC.cab c hc).2.2.1; have q' : cs P c = i := q; omega))]
      show clr S 3 i 305 i = _; unfold clr; rw [if_pos ⟨by decide, rfl⟩]; rfl
    · rw [sNp_o e 305 (by decide)]; exact hC.cabn i (by omega)
  · intro s hs
    obtain ⟨a, b, c', d'⟩ := hC.sail s hs
    exact ⟨a, b, c', Nat.lt_succ_of_lt d'⟩
  · intro i hi
    by_cases e : i = ns
    · subst e
      rw [cnt_zero (fun t ht => decide_eq_false (fun q => lst t ht q.2))]
      show clr S 3 i 306 i = _; unfold clr; rw [if_pos ⟨by decide, rfl⟩]; rfl
    · rw [sNp_o e 306 (by decide)]; exact hC.std i (by omega)
  · intro i j hi hj
    by_cases e : i = ns
    · subst e
      unfold chN; rw [if_pos rfl]
      show clrP (clrP P 3 i) 14 i 1400 i j = none
      unfold clrP; rw [if_pos ⟨by decide, rfl⟩]
    · rw [sNp_o e 1499 (by decide)] at hj
      unfold chN; rw [if_neg e, pNp_o e 1400 j (by decide)]
      exact hC.lnk i j (by omega) hj
  · intro i j t hi hj
    by_cases e : i = ns
    · subst e
      unfold chN; rw [if_pos rfl]
      constructor
      · intro q; exact absurd q (by simp)
      · rintro ⟨a, b, c, -⟩; exact absurd c (lst t a)
    · rw [sNp_o e 1499 (by decide)] at hj
      unfold chN; rw [if_neg e, sNp_o e 302 (by decide)]
      exact hC.mem i j t (by omega) hj
  · intro t ht h3
    have e : st P t ≠ ns := lst t ht
    have e' : st (pNp P ns) t ≠ ns := lst t ht
    rw [sNp_o e' 301 (by decide), sNp_o e' 302 (by decide)]
    exact hC.dl t ht h3
  · intro i j hi hj
    by_cases e : i = ns
    · subst e
      unfold chN; rw [if_pos rfl]
      exact ⟨trivial, Nat.zero_le _, List.nodup_nil, List.Pairwise.nil⟩
    · rw [sNp_o e 1499 (by decide)] at hj
      unfold chN; rw [if_neg e, sNp_o e 303 (by decide)]
      exact hC.ctg i j (by omega) hj
theorem B_ship_ok : B_ship Inv := by
  rintro k S P N M a1 a2 a3 a4 hk ⟨ns, nc, nv, nt, tn, bn, ch, hC, hM, hR⟩ h4
  have hI : Inv (k + 1) S P N M := Inv_up _ _ _ _ _ ⟨ns, nc, nv, nt, tn, bn, ch, hC, hM, hR⟩
  have hns := hC.ns1
  have n3 : N 3 = ns := hC.cnt.2.2.1
  have n14 : N 14 = ns := hC.cnt.2.2.2.1
  unfold f5_ship f6_ship
  rw [isIn_eq, isIn_eq, isIn_eq, hC.c1, hM.cnt.1]
  rcases Nat.lt_or_ge ns 12 with hv1 | hv1
  · rw [if_neg (show ¬ (12 : Int32) ≤ nI ns from nI_ge (b := 12) hv1 (by decide)), if_neg (show ¬ nI ns = (12 : Int32) from fun e => by have := nI_inj (b := 12) (by omega) (by decide) e; omega)]
    rcases within_c a1 1 4 with ⟨h1, g1, g2⟩ | ⟨h1, -⟩
    · rw [h1]
      simp only [Option.bind_some, if_neg one_ne]
      rcases within_c a2 1 6 with ⟨h2, g3, g4⟩ | ⟨h2, -⟩
      · rw [h2]
        simp only [Option.bind_some, if_neg one_ne]
        rcases within_c a3 50 2000 with ⟨h3, g5, g6⟩ | ⟨h3, -⟩
        · rw [h3]
          simp only [Option.bind_some, if_neg one_ne]
          obtain ⟨d, rfl, hd⟩ := within_nat (a := 1) (b := 4) (by decide) (by decide) g1 g2
          obtain ⟨l, rfl, hl⟩ := within_nat (a := 1) (b := 6) (by decide) (by decide) g3 g4
          obtain ⟨n, rfl, hn⟩ := within_nat (a := 50) (b := 2000) (by decide) (by decide) g5 g6
          have hdl : d * l ≤ 24 := Nat.le_trans (Nat.mul_le_mul hd.2 hl.2) (by decide)
          have both : ∃ v S' P' N' M', (lt (upN N 3) fun (N7 : TN) =>
  lt (clr S 3 (N 3)) fun (S8 : TS) =>
  lt (clrP P 3 (N 3)) fun (P9 : TP) =>
  b3 (f3_init S8 P9 N7 (N 3) (S8 501 0) (nI d) (nI l) (nI n) a4) fun (S12 : TS) (P13 : TP) (N14 : TN) =>
  (ix (nI ns) 12).bind fun (j17 : Nat) =>
  lt (up3 P13 700 0 j17 (some (N 3))) fun (P18 : TP) =>
  lt (up S12 501 0 ((S12 501 0) + (1))) fun (S19 : TS) =>
  some ((S12 501 0), S19, P18, N14)) = some (v, S', P', N') ∧ ((ix (nI ns) 12).bind fun (j7 : Nat) =>
  lt (up M 2000 j7 (nI d)) fun (M8 : TS) =>
  (ix (M8 620 0) 12).bind fun (j9 : Nat) =>
  lt (up M8 2100 j9 (nI l)) fun (M10 : TS) =>
  (ix (M10 620 0) 12).bind fun (j11 : Nat) =>
  lt (up M10 2200 j11 (nI n)) fun (M12 : TS) =>
  (ix (M12 620 0) 12).bind fun (j13 : Nat) =>
  if a4 = 0 ∨ a4 = 1 then
  (lt (up M12 2300 j13 a4) fun (M14 : TS) =>
  lt (up M14 620 0 ((M14 620 0) + (1))) fun (M16 : TS) =>
  some (((M16 620 0) - (1)), M16))
  else none) = some (v, M') ∧ Inv (k + 1) S' P' N' M' := by
            refine ⟨nI ns, sNp S ns (nI ns) (nI d) (nI l) (nI n) a4, pNp P ns, upN (upN N 3) 14, up (up (up (up (up M 2000 ns (nI d)) 2100 ns (nI l)) 2200 ns (nI n)) 2300 ns a4) 620 0 (nI ns + 1), ?_, ?_, Inv_up _ _ _ _ _ ⟨ns + 1, nc, nv, nt, tn, bn, chN ch ns, CI_sNp hC hv1 hd hl hn a4 h4, ?_, hR⟩⟩
            · have ei : f3_init (clr S 3 ns) (clrP P 3 ns) (upN N 3) ns (nI ns) (nI d) (nI l) (nI n) a4 = some (up (up (up (up (up (up (clr S 3 ns) 300 ns (nI ns)) 301 ns (nI d)) 302 ns (nI l)) 303 ns (nI n)) 304 ns a4) 1499 ns (nI d * nI l), up3 (clrP (clrP P 3 ns) 14 ns) 307 ns 0 (some ns), upN (upN N 3) 14) := by
                unfold f3_init
                simp only [lt]
                rw [if_pos h4, if_neg (by rw [pk_mul]; exact nI_pos (by omega)), if_neg (by rw [pk_mul, nI_clamp (by omega)]; omega), show upN N 3 14 = ns from n14]
              rw [n3, ix_nI hv1 (by decide)]
              show b3 (f3_init (clr S 3 ns) (clrP P 3 ns) (upN N 3) ns (S 501 0) (nI d) (nI l) (nI n) a4) _ = _
              rw [hC.c1, ei]
              show some ((S 501 0), up (up (up (up (up (up (up (clr S 3 ns) 300 ns (nI ns)) 301 ns (nI d)) 302 ns (nI l)) 303 ns (nI n)) 304 ns a4) 1499 ns (nI d * nI l)) 501 0 (S 501 0 + 1), _, _) = _
              rw [hC.c1]; rfl
            · rw [ix_nI hv1 (by decide)]
              show (ix (M 620 0) 12).bind (fun j9 => (ix (M 620 0) 12).bind fun j11 => (ix (M 620 0) 12).bind fun j13 => if a4 = 0 ∨ a4 = 1 then some (M 620 0 + 1 - 1, up (up (up (up (up M 2000 ns (nI d)) 2100 j9 (nI l)) 2200 j11 (nI n)) 2300 j13 a4) 620 0 (M 620 0 + 1)) else none) = _
              rw [hM.cnt.1, ix_nI hv1 (by decide)]
              simp only [Option.bind_some, if_pos h4, nI_1]
              rw [nI_sub1 (by omega)]; rfl
            · refine ⟨⟨nI_1 ns, hM.cnt.2.1, hM.cnt.2.2.1, hM.cnt.2.2.2⟩, ?_, hM.cab, hM.sail, hM.how, hM.off, hM.ramp, hM.tick, hM.turn, hM.brd, hM.log, hM.new⟩
              intro i hi
              show up M 2000 ns (nI d) 2000 i = up (up (clr S 3 ns) 300 ns (nI ns)) 301 ns (nI d) 301 i ∧ up (up M 2000 ns (nI d)) 2100 ns (nI l) 2100 i = up (up (up (clr S 3 ns) 300 ns (nI ns)) 301 ns (nI d)) 302 ns (nI l) 302 i ∧ up (up (up M 2000 ns (nI d)) 2100 ns (nI l)) 2200 ns (nI n) 2200 i = up (up (up (up (clr S 3 ns) 300 ns (nI ns)) 301 ns (nI d)) 302 ns (nI l)) 303 ns (nI n) 303 i ∧ up (up (up (up M 2000 ns (nI d)) 2100 ns (nI l)) 2200 ns (nI n)) 2300 ns a4 2300 i = up (up (up (up (up (clr S 3 ns) 300 ns (nI ns)) 301 ns (nI d)) 302 ns (nI l)) 303 ns (nI n)) 304 ns a4 304 i
              by_cases e : i = ns
              · subst e; simp only [up_v]; exact ⟨trivial, trivial, trivial, trivial⟩
              · have ec : ∀ c, clr S 3 ns c i = S c i := fun c => by unfold clr; rw [if_neg (fun q => e q.2)]
                simp only [up_i e, ec]
                exact hM.ship i (by omega)
          by_cases e4 : a4 = 0
          · simp only [if_pos e4, lt]; exact both
          · simp only [if_neg e4, lt]
            by_cases e1 : nI d < 2
            · simp only [if_pos e1]; exact ⟨_, _, _, _, _, rfl, rfl, hI⟩
            · simp only [if_neg e1]
              have : (2 ≤ nI l) ↔ ¬ (nI l < 2) := by
                rw [Int32.le_iff_toInt_le, Int32.lt_iff_toInt_lt]; omega
              by_cases e2 : nI l < 2
              · rw [if_neg (fun q => this.mp q e2)]; simp only [if_pos e2]; exact ⟨_, _, _, _, _, rfl, rfl, hI⟩
              · rw [if_pos (this.mpr e2)]; simp only [if_neg e2]; exact both
        · rw [h3]; exact ⟨_, _, _, _, _, rfl, rfl, hI⟩
      · rw [h2]; exact ⟨_, _, _, _, _, rfl, rfl, hI⟩
    · rw [h1]; exact ⟨_, _, _, _, _, rfl, rfl, hI⟩
  · have : ns = 12 := by omega
    subst this
    rw [if_pos (show (12 : Int32) ≤ nI 12 from Int32.le_refl _), if_pos (show nI 12 = (12 : Int32) from rfl)]
    refine ⟨-1, S, P, N, M, rfl, ?_, hI⟩
    rcases within_c a1 1 4 with ⟨h1, -⟩ | ⟨h1, -⟩ <;> rw [h1] <;> simp only [Option.bind_some, if_neg one_ne]
    · rcases within_c a2 1 6 with ⟨h2, -⟩ | ⟨h2, -⟩ <;> rw [h2] <;> simp only [Option.bind_some, if_neg one_ne]
      · rcases within_c a3 50 2000 with ⟨h3, -⟩ | ⟨h3, -⟩ <;> rw [h3] <;> simp only [Option.bind_some, if_neg one_ne, lt]
        · repeat' split
          all_goals rfl
        · rfl
      · rfl
    · rfl
end NEWB
