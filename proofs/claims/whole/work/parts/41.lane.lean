/-! lane: what is free, the longest run, the first gap, who may stand -/
section LANE
variable {k ns nc nv nt tn bn : Nat} {ch : Nat → Nat → List Nat} {S : TS} {P : TP} {N : TN} {M : TS}
def Scr (M M' : TS) : Prop := ∀ c i, c ≠ 627 → c ≠ 628 → c ≠ 629 → c ≠ 630 → c ≠ 4600 → M' c i = M c i
theorem Scr.refl (M : TS) : Scr M M := fun _ _ _ _ _ _ _ => rfl
theorem Scr.trans {M M' M'' : TS} (h : Scr M M') (h' : Scr M' M'') : Scr M M'' := fun c i a b d e f => by rw [h' c i a b d e f, h c i a b d e f]
theorem Scr.up {M M' : TS} (h : Scr M M') {c i : Nat} {v : Int32} (hc : c = 627 ∨ c = 628 ∨ c = 629 ∨ c = 630 ∨ c = 4600) : Scr M (up M' c i v) := fun c' i' a b d e f => by
  rw [up_c (by omega)]; exact h c' i' a b d e f
theorem MI_scr {M' : TS} (hM : MI ns nc nv nt tn bn S P M) (h : Scr M M') : MI ns nc nv nt tn bn S P M' := by
  refine ⟨?_, ?_, ?_, ?_, ?_, ?_, ?_, ?_, ?_, ?_, ?_, ?_⟩
  · unfold MI_cnt
    rw [h 620 0 (by decide) (by decide) (by decide) (by decide) (by decide), h 621 0 (by decide) (by decide) (by decide) (by decide) (by decide), h 622 0 (by decide) (by decide) (by decide) (by decide) (by decide), h 623 0 (by decide) (by decide) (by decide) (by decide) (by decide)]; exact hM.cnt
  · intro i hi; rw [h 2000 i (by decide) (by decide) (by decide) (by decide) (by decide), h 2100 i (by decide) (by decide) (by decide) (by decide) (by decide), h 2200 i (by decide) (by decide) (by decide) (by decide) (by decide), h 2300 i (by decide) (by decide) (by decide) (by decide) (by decide)]; exact hM.ship i hi
  · intro i hi; rw [h 2400 i (by decide) (by decide) (by decide) (by decide) (by decide), h 2500 i (by decide) (by decide) (by decide) (by decide) (by decide)]; exact hM.cab i hi
  · intro i hi; rw [h 2600 i (by decide) (by decide) (by decide) (by decide) (by decide), h 2700 i (by decide) (by decide) (by decide) (by decide) (by decide), h 2800 i (by decide) (by decide) (by decide) (by decide) (by decide)]; exact hM.sail i hi
  · intro i hi; rw [h 2900 i (by decide) (by decide) (by decide) (by decide) (by decide), h 3000 i (by decide) (by decide) (by decide) (by decide) (by decide), h 3100 i (by decide) (by decide) (by decide) (by decide) (by decide)]; exact hM.how i hi
  · intro i hi; rw [h 3400 i (by decide) (by decide) (by decide) (by decide) (by decide)]; exact hM.off i hi
  · intro i hi; rw [h 3200 i (by decide) (by decide) (by decide) (by decide) (by decide), h 3300 i (by decide) (by decide) (by decide) (by decide) (by decide)]; exact hM.ramp i hi
  · intro t q ht hq; rw [h 3500 _ (by decide) (by decide) (by decide) (by decide) (by decide)]; exact hM.tick t q ht hq
  · unfold MI_turn; rw [h 624 0 (by decide) (by decide) (by decide) (by decide) (by decide), h 625 0 (by decide) (by decide) (by decide) (by decide) (by decide)]; exact hM.turn
  · unfold MI_brd; simp only [h 3600 _ (by decide) (by decide) (by decide) (by decide) (by decide)]; exact hM.brd
  · intro i hi; rw [h 3700 i (by decide) (by decide) (by decide) (by decide) (by decide), h 3800 i (by decide) (by decide) (by decide) (by decide) (by decide), h 3900 i (by decide) (by decide) (by decide) (by decide) (by decide)]; exact hM.log i hi
  · intro i hi; rw [h 2900 i (by decide) (by decide) (by decide) (by decide) (by decide), h 3000 i (by decide) (by decide) (by decide) (by decide) (by decide), h 3300 i (by decide) (by decide) (by decide) (by decide) (by decide), h 3400 i (by decide) (by decide) (by decide) (by decide) (by decide)]; exact hM.new i hi
theorem m11 (c1 c3 c4 c5 : Int32) {e : Nat} (he : e ≤ 2000) (K : TS → Option TS) : ∀ (n y : Nat) (M : TS), y ≤ e → e < y + n → ∃ M', f6_measure_11 K c1 c3 c4 c5 (nI e) n M (nI y) = K M' ∧ Scr M M' ∧ (∀ x, x < y → M' 4600 x = M 4600 x) ∧ (∀ x, y ≤ x → x < e → M' 4600 x = 0) := by
  intro n
  induction n with
  | zero => intro y M h1 h2; omega
  | succ n ih =>
    intro y M h1 h2
    rw [f6_measure_11]
    rcases Nat.lt_or_ge y e with hy | hy
    · rw [if_neg (nI_ge hy (by omega)), ix_nI (by omega) (by decide)]
      simp only [Option.bind_some, lt, nI_1]
      obtain ⟨M', a, b, c, d⟩ := ih (y + 1) (up M 4600 y 0) (by omega) (by omega)
      refine ⟨M', a, ((Scr.refl M).up (by omega)).trans b, fun x hx => by rw [c x (by omega), up_i (by omega)], fun x hx hx' => ?_⟩
      rcases Nat.eq_or_lt_of_le hx with q | q
      · rw [← q, c y (by omega), up_v]
      · exact d x q hx'
    · have : y = e := by omega
      subst this
      rw [if_pos (Int32.le_refl _)]
      exact ⟨M, rfl, Scr.refl M, fun _ _ => rfl, fun x a b => by omega⟩
theorem m115 (c1 c3 c4 c5 c6 c7 : Int32) {e : Nat} (he : e ≤ 2000) (K : TS → Option TS) : ∀ (n y : Nat) (M : TS), y ≤ e → e < y + n → ∃ M', f6_measure_115 K c1 c3 c4 c5 c6 c7 (nI e) n M (nI y) = K M' ∧ Scr M M' ∧ (∀ x, ¬ (y ≤ x ∧ x < e) → M' 4600 x = M 4600 x) ∧ (∀ x, y ≤ x → x < e → M' 4600 x = 1) := by
  intro n
  induction n with
  | zero => intro y M h1 h2; omega
  | succ n ih =>
    intro y M h1 h2
    rw [f6_measure_115]
    rcases Nat.lt_or_ge y e with hy | hy
    · rw [if_neg (nI_ge hy (by omega)), ix_nI (by omega) (by decide)]
      simp only [Option.bind_some, lt, nI_1]
      obtain ⟨M', a, b, c, d⟩ := ih (y + 1) (up M 4600 y 1) (by omega) (by omega)
      refine ⟨M', a, ((Scr.refl M).up (by omega)).trans b, fun x hx => by rw [c x (by omega), up_i (by omega)], fun x hx hx' => ?_⟩
      rcases Nat.eq_or_lt_of_le hx with q | q
      · rw [← q, c y (by omega), up_v]
      · exact d x q hx'
    · have : y = e := by omega
      subst this
      rw [if_pos (Int32.le_refl _)]
      exact ⟨M, rfl, Scr.refl M, fun _ _ => rfl, fun x a b => by omega⟩
def Cov (S : TS) (L : List Nat) (x i : Nat) : Prop := ∃ t ∈ L, i ≤ t ∧ ∃ q, q ≤ 2000 ∧ S 410 t = nI q ∧ q ≤ x ∧ x < q + nn (S 402 t)
/-- the ship's open sailing, as the model knows it -/
def So (ns nv nt : Nat) (S : TS) (P : TP) (i : Nat) (so : Int32) : Prop := (so = -1 ∧ ∀ t, t < nt → ¬ (S 406 t = 3 ∧ st P t = i)) ∨ ∃ s, s < nv ∧ so = nI s ∧ vs P s = i ∧ S 204 s = 1
theorem so_ab (hC : CI k ns nc nv nt tn ch S P N) {i : Nat} (hi : i < ns) {d l : Nat} (hd : d < nn (S 301 i)) (hl : l < nn (S 302 i)) {s : Nat} (hs : s < nv) (q1 : vs P s = i) (q2 : S 204 s = 1) (t : Nat) : t ∈ ch i (d * nn (S 302 i) + l) ↔ t < nt ∧ sl P t = s ∧ S 406 t = 3 ∧ S 408 t = nI d ∧ S 409 t = nI l := by
  rw [chm hC hi hd hl t]
  constructor
  · rintro ⟨x1, x2, x3, x4, x5⟩
    obtain ⟨y1, y2⟩ := (ab_open hC hs q1 q2 x1).mp ⟨x2, x3⟩
    exact ⟨x1, y2, y1, x4, x5⟩
  · rintro ⟨x1, x2, x3, x4, x5⟩
    obtain ⟨y1, y2⟩ := (ab_open hC hs q1 q2 x1).mpr ⟨x3, x2⟩
    exact ⟨x1, y1, y2, x4, x5⟩
theorem m35 (hC : CI k ns nc nv nt tn ch S P N) {i : Nat} (hi : i < ns) {d l : Nat} (hd : d < nn (S 301 i)) (hl : l < nn (S 302 i)) {s : Nat} (hs : s < nv) (q1 : vs P s = i) (q2 : S 204 s = 1) (c5 c6 : Int32) (K : TS → Option TS) : ∀ (n y : Nat) (M : TS), MI ns nc nv nt tn bn S P M → y ≤ nt → nt < y + n → ∃ M', f6_measure_35 K (nI s) (nI d) (nI l) c5 c6 n M (nI y) = K M' ∧ Scr M M' ∧ (∀ x, Cov S (ch i (d * nn (S 302 i) + l)) x y → M' 4600 x = 1) ∧ (∀ x, ¬ Cov S (ch i (d * nn (S 302 i) + l)) x y → M' 4600 x = M 4600 x) := by
  have hb := hC.nt4
  have hv := hC.nv6
  have ab := so_ab hC hi hd hl hs q1 q2
  obtain ⟨D, W, z, h1, h2, h3, h4, e1, e2, e3, e4, b1, b2, b3, b4, b5, b6, hm⟩ := dims hC.ship hi
  obtain ⟨k1, k2, k3, k4, k5, k6, k7⟩ := lane hC hi hd hl
  intro n
  induction n with
  | zero => intro y M hM a b; omega
  | succ n ih =>
    intro y M hM a b
    rw [f6_measure_35, hM.cnt.2.2.2]
    rcases Nat.lt_or_ge y nt with hy | hy
    · rw [if_neg (nI_ge hy (by omega)), if_neg (nI_neg1 (show s < 2 ^ 31 by omega)), isAb hM hb hv hy (hC.t5 hy) hs]
      simp only [Option.bind_some, of6 hM hb hy, of7 hM hb hy, of8 hM hb hy, of1 hM hb hy, nI_1]
      have skip : y ∉ ch i (d * nn (S 302 i) + l) → ∃ M', f6_measure_35 K (nI s) (nI d) (nI l) c5 c6 n M (nI (y + 1)) = K M' ∧ Scr M M' ∧ (∀ x, Cov S (ch i (d * nn (S 302 i) + l)) x y → M' 4600 x = 1) ∧ (∀ x, ¬ Cov S (ch i (d * nn (S 302 i) + l)) x y → M' 4600 x = M 4600 x) := by
        intro hno
        obtain ⟨M', g1, g2, g3, g4⟩ := ih (y + 1) M hM (by omega) (by omega)
        have e : ∀ x, Cov S (ch i (d * nn (S 302 i) + l)) x y ↔ Cov S (ch i (d * nn (S 302 i) + l)) x (y + 1) := by
          intro x
          constructor
          · rintro ⟨t, ht, h, q⟩
            refine ⟨t, ht, ?_, q⟩
            rcases Nat.eq_or_lt_of_le h with r | r
            · rw [← r] at ht; exact absurd ht hno
            · exact r
          · rintro ⟨t, ht, h, q⟩; exact ⟨t, ht, by omega, q⟩
        exact ⟨M', g1, g2, fun x hx => g3 x ((e x).mp hx), fun x hx => g4 x (fun q => hx ((e x).mpr q))⟩
      by_cases w1 : sl P y = s ∧ S 406 y = 3
      · simp only [if_pos w1, if_neg one_ne]
        by_cases w2 : S 408 y = nI d
        · simp only [if_pos w2]
          by_cases w3 : S 409 y = nI l
          · simp only [if_pos w3]
            have hmem := (ab y).mpr ⟨hy, w1.1, w1.2, w2, w3⟩
            obtain ⟨q, r1, r2, r3⟩ := ctg_ge k2 y hmem
            obtain ⟨x0, hx0, x1, x2⟩ := k6 y hmem
            rw [hx0, nn_nI (by omega)] at r3
            rw [r2, hx0, nI_add]
            obtain ⟨M1, g1, g2, g3, g4⟩ := m115 (nI s) (nI d) (nI l) c5 c6 (nI y) (e := q + x0) (by omega) (fun M19 => f6_measure_35 K (nI s) (nI d) (nI l) c5 c6 n M19 (nI (y + 1))) FU q M (by omega) (by rw [FU_eq]; omega)
            rw [g1]
            obtain ⟨M', f1, f2, f3, f4⟩ := ih (y + 1) M1 (MI_scr hM g2) (by omega) (by omega)
            refine ⟨M', f1, g2.trans f2, ?_, ?_⟩
            · rintro x ⟨t, ht, h, p, p0, p1, p2, p3⟩
              by_cases c : Cov S (ch i (d * nn (S 302 i) + l)) x (y + 1)
              · exact f3 x c
              · rw [f4 x c]
                rcases Nat.eq_or_lt_of_le h with r | r
                · subst r
                  rw [p1] at r2
                  have hpq : p = q := nI_inj (by omega) (by omega) r2
                  subst hpq
                  rw [hx0, nn_nI (by omega)] at p3
                  exact g4 x p2 p3
                · exact absurd ⟨t, ht, r, p, p0, p1, p2, p3⟩ c
            · intro x hx
              have c : ¬ Cov S (ch i (d * nn (S 302 i) + l)) x (y + 1) := by
                rintro ⟨t, ht, h, q⟩; exact hx ⟨t, ht, by omega, q⟩
              rw [f4 x c, g3 x]
              rintro ⟨u1, u2⟩
              exact hx ⟨y, hmem, Nat.le_refl _, q, by omega, r2, u1, by rw [hx0, nn_nI (by omega)]; exact u2⟩
          · simp only [if_neg w3]; exact skip (fun q => w3 ((ab y).mp q).2.2.2.2)
        · simp only [if_neg w2]; exact skip (fun q => w2 ((ab y).mp q).2.2.2.1)
      · simp only [if_neg w1, if_true]; exact skip (fun q => w1 ⟨((ab y).mp q).2.1, ((ab y).mp q).2.2.1⟩)
    · have : y = nt := by omega
      subst this
      rw [if_pos (Int32.le_refl _)]
      refine ⟨M, rfl, Scr.refl M, ?_, fun _ _ => rfl⟩
      rintro x ⟨t, ht, h, -⟩
      have := ((ab t).mp ht).1; omega
theorem m163 {T e c : Nat} (hT : T ≤ e) (he : e ≤ 2000) (hc : 1 ≤ c ∧ c ≤ 1000) (K : TS → Option TS) : ∀ (n y : Nat) (M : TS), (∀ x, x < e → M 4600 x = if x < T then 1 else 0) → M 627 0 = nI (y - T) → M 628 0 = nI (y - T) → M 629 0 = (if T + c ≤ y then nI T else -1) → y ≤ e → e < y + n → ∃ M', f6_measure_163 K (nI c) (nI e) n M (nI (y - T)) (nI y) = K M' ∧ Scr M M' ∧ M' 627 0 = nI (e - T) ∧ M' 628 0 = nI (e - T) ∧ M' 629 0 = (if T + c ≤ e then nI T else -1) := by
  intro n
  induction n with
  | zero => intro y M h0 h1 h2 h3 a b; omega
  | succ n ih =>
    intro y M h0 h1 h2 h3 a b
    rw [f6_measure_163]
    rcases Nat.lt_or_ge y e with hy | hy
    · rw [if_neg (nI_ge hy (by omega)), ix_nI (by omega) (by decide)]
      simp only [Option.bind_some, lt, h0 y hy]
      rcases Nat.lt_or_ge y T with g | g
      · simp only [if_pos g, if_neg one_ne]
        rw [if_neg (show ¬ (0 : Int32) = nI c from fun q => by have := nI_inj (a := 0) (by decide) (by omega) q; omega), nI_1]
        have e0 : y - T = 0 := by omega
        have e1 : y + 1 - T = 0 := by omega
        have h628 : up M 627 0 (M 627 0 + 0) 628 0 = 0 := by show M 628 0 = 0; rw [h2, e0]; rfl
        rw [h628, if_neg (show ¬ (0 : Int32) < 0 by decide)]
        have := ih (y + 1) (up (up M 627 0 (M 627 0 + 0)) 628 0 0) h0 (by
          show up M 627 0 (M 627 0 + 0) 627 0 = _; rw [up_v, h1, e0, e1]; rfl) (by rw [up_v, e1]; rfl) (by
          show M 629 0 = _; rw [h3, if_neg (by omega), if_neg (by omega)]) (by omega) (by omega)
        rw [e1] at this
        obtain ⟨M', f1, f2, f3⟩ := this
        exact ⟨M', f1, (((Scr.refl M).up (by omega)).up (by omega)).trans f2, f3⟩
      · simp only [if_neg (show ¬ y < T by omega), if_true, nI_1]
        have e1 : y - T + 1 = y + 1 - T := by omega
        rw [e1]
        have h628 : up M 627 0 (nI (y + 1 - T)) 628 0 = nI (y - T) := h2
        have h627 : M 627 0 + 1 = nI (y + 1 - T) := by rw [h1, nI_1, e1]
        simp only [h628, h627, if_pos (show nI (y - T) < nI (y + 1 - T) from nI_lt (by omega) (by omega))]
        rw [show (up (up M 627 0 (nI (y + 1 - T))) 628 0 (nI (y + 1 - T)) 629 0) = (if T + c ≤ y then nI T else -1) from h3]
        by_cases w : y + 1 = T + c
        · rw [if_pos (show nI (y + 1 - T) = nI c by rw [show y + 1 - T = c by omega]), if_neg (show ¬ T + c ≤ y by omega), if_pos rfl]
          have ev : nI y - nI c + 1 = nI T := by
            rw [Int32.sub_eq_add_neg, Int32.add_assoc, Int32.add_comm (-nI c) 1, ← Int32.add_assoc, nI_1, ← Int32.sub_eq_add_neg, pk_sub (by omega), show y + 1 - c = T by omega]
          rw [ev]
          obtain ⟨M', f1, f2, f3⟩ := ih (y + 1) (up (up (up M 627 0 (nI (y + 1 - T))) 628 0 (nI (y + 1 - T))) 629 0 (nI T)) h0 (by
            show up M 627 0 (nI (y + 1 - T)) 627 0 = _; rw [up_v]) (by
            show up (up M 627 0 (nI (y + 1 - T))) 628 0 (nI (y + 1 - T)) 628 0 = _; rw [up_v]) (by
            rw [up_v, if_pos (by omega)]) (by omega) (by omega)
          exact ⟨M', f1, ((((Scr.refl M).up (by omega)).up (by omega)).up (by omega)).trans f2, f3⟩
        · rw [if_neg (show ¬ nI (y + 1 - T) = nI c from fun q => by have := nI_inj (by omega) (by omega) q; omega)]
          obtain ⟨M', f1, f2, f3⟩ := ih (y + 1) (up (up M 627 0 (nI (y + 1 - T))) 628 0 (nI (y + 1 - T))) h0 (by
            show up M 627 0 (nI (y + 1 - T)) 627 0 = _; rw [up_v]) (by rw [up_v]) (by
            show M 629 0 = _
            rw [h3]
            by_cases v : T + c ≤ y
            · rw [if_pos v, if_pos (by omega)]
            · rw [if_neg v, if_neg (by omega)]) (by omega) (by omega)
          exact ⟨M', f1, (((Scr.refl M).up (by omega)).up (by omega)).trans f2, f3⟩
    · have : y = e := by omega
      subst this
      rw [if_pos (Int32.le_refl _)]
      exact ⟨M, rfl, Scr.refl M, h1, h2, h3⟩
theorem meas (hC : CI k ns nc nv nt tn ch S P N) (hM : MI ns nc nv nt tn bn S P M) {i : Nat} (hi : i < ns) {d l : Nat} (hd : d < nn (S 301 i)) (hl : l < nn (S 302 i)) {so : Int32} (hso : So ns nv nt S P i so) {c : Nat} (hc : 1 ≤ c ∧ c ≤ 1000) : ∃ M', f6_measure M so (nI i) (nI d) (nI l) (nI c) = some M' ∧ Scr M M' ∧ M' 627 0 = nI (nn (S 303 i) - total (S 402) (ch i (d * nn (S 302 i) + l))) ∧ M' 628 0 = nI (nn (S 303 i) - total (S 402) (ch i (d * nn (S 302 i) + l))) ∧ M' 629 0 = (if total (S 402) (ch i (d * nn (S 302 i) + l)) + c ≤ nn (S 303 i) then nI (total (S 402) (ch i (d * nn (S 302 i) + l))) else -1) := by
  have hns := hC.ns1
  have hb := hC.nt4
  obtain ⟨D, W, z, h1, h2, h3, h4, e1, e2, e3, e4, b1, b2, b3, b4, b5, b6, hm⟩ := dims hC.ship hi
  obtain ⟨k1, k2, k3, k4, k5, k6, k7⟩ := lane hC hi hd hl
  unfold f6_measure
  rw [ix_nI (show i < 12 by omega) (by decide), Option.bind_some, (hM.ship i hi).2.2.1]
  rw [e3] at k3 ⊢
  rw [h3]
  generalize hT : total (S 402) (ch i (d * nn (S 302 i) + l)) = T at k3 ⊢
  obtain ⟨M1, g1, g2, -, g4⟩ := m11 so (nI d) (nI l) (nI c) (e := z) (by omega) (fun (M4 : TS) =>
  f6_measure_35 (fun (M20 : TS) =>
  lt (up M20 627 0 (0)) fun (M21 : TS) =>
  lt (up M21 628 0 (0)) fun (M22 : TS) =>
  lt (up M22 629 0 (-1)) fun (M23 : TS) =>
  f6_measure_163 (fun (M32 : TS) =>
  some M32) (nI c) (nI z) FU M23 (0) (0)) so (nI d) (nI l) (nI c) (nI z) FU M4 (0)) FU 0 M (by omega) (by rw [FU_eq]; omega)
  have g1 : f6_measure_11 (fun (M4 : TS) =>
  f6_measure_35 (fun (M20 : TS) =>
  lt (up M20 627 0 (0)) fun (M21 : TS) =>
  lt (up M21 628 0 (0)) fun (M22 : TS) =>
  lt (up M22 629 0 (-1)) fun (M23 : TS) =>
  f6_measure_163 (fun (M32 : TS) =>
  some M32) (nI c) (nI z) FU M23 (0) (0)) so (nI d) (nI l) (nI c) (nI z) FU M4 (0)) so (nI d) (nI l) (nI c) (nI z) FU M 0 = _ := g1
  rw [g1]
  have step : ∃ M2, f6_measure_35 (fun (M20 : TS) =>
  lt (up M20 627 0 (0)) fun (M21 : TS) =>
  lt (up M21 628 0 (0)) fun (M22 : TS) =>
  lt (up M22 629 0 (-1)) fun (M23 : TS) =>
  f6_measure_163 (fun (M32 : TS) =>
  some M32) (nI c) (nI z) FU M23 (0) (0)) so (nI d) (nI l) (nI c) (nI z) FU M1 (0) = f6_measure_163 (fun (M32 : TS) => some M32) (nI c) (nI z) FU (up (up (up M2 627 0 0) 628 0 0) 629 0 (-1)) 0 0 ∧ Scr M1 M2 ∧ (∀ x, x < z → M2 4600 x = if x < T then 1 else 0) := by
    rcases hso with ⟨rfl, hno⟩ | ⟨s, hs, rfl, q1, q2⟩
    · refine ⟨M1, ?_, Scr.refl M1, ?_⟩
      · show f6_measure_35 _ (-1) (nI d) (nI l) (nI c) (nI z) (5999 + 1) M1 0 = _
        rw [f6_measure_35, if_pos (show (-1 : Int32) = -1 from rfl)]
        split <;> rfl
      · intro x hx
        have : ch i (d * nn (S 302 i) + l) = [] := by
          cases hL : ch i (d * nn (S 302 i) + l) with
          | nil => rfl
          | cons a L =>
            obtain ⟨x1, x2, x3, -⟩ := (chm hC hi hd hl a).mp (by rw [hL]; exact List.mem_cons_self ..)
            exact absurd ⟨x2, x3⟩ (hno a x1)
        rw [this] at hT
        have hT0 : T = 0 := hT.symm
        rw [g4 x (Nat.zero_le _) hx, if_neg (by omega)]
    · obtain ⟨M2, f1, f2, f3, f4⟩ := m35 hC hi hd hl hs q1 q2 (nI c) (nI z) (fun (M20 : TS) =>
  lt (up M20 627 0 (0)) fun (M21 : TS) =>
  lt (up M21 628 0 (0)) fun (M22 : TS) =>
  lt (up M22 629 0 (-1)) fun (M23 : TS) =>
  f6_measure_163 (fun (M32 : TS) =>
  some M32) (nI c) (nI z) FU M23 (0) (0)) FU 0 M1 (MI_scr hM g2) (by omega) (by rw [FU_eq]; omega)
      refine ⟨M2, f1, f2, ?_⟩
      intro x hx
      by_cases w : x < T
      · rw [if_pos w]
        obtain ⟨t, ht, q, p1, p2, p3⟩ := ctg_cov x k2 (Nat.zero_le _) (by rw [hT]; omega)
        obtain ⟨q', p4, p5, p6⟩ := ctg_ge k2 t ht
        exact f3 x ⟨t, ht, Nat.zero_le _, q, by omega, p1, p2, p3⟩
      · rw [if_neg w, f4 x, g4 x (Nat.zero_le _) hx]
        rintro ⟨t, ht, -, q, p0, p1, p2, p3⟩
        obtain ⟨q', p4, p5, p6⟩ := ctg_ge k2 t ht
        rw [hT] at p6
        rw [p1] at p5
        have := nI_inj (by omega) (by omega) p5
        omega
  obtain ⟨M2, f1, f2, f3⟩ := step
  rw [f1]
  obtain ⟨M', r1, r2, r3⟩ := m163 (T := T) (e := z) (c := c) (by omega) (by omega) hc (fun (M32 : TS) => some M32) FU 0 (up (up (up M2 627 0 0) 628 0 0) 629 0 (-1)) f3 (by
    show up M2 627 0 0 627 0 = _; rw [up_v, Nat.zero_sub]; rfl) (by
    show up (up M2 627 0 0) 628 0 0 628 0 = _; rw [up_v, Nat.zero_sub]; rfl) (by
    rw [up_v, if_neg (by omega)]) (Nat.zero_le _) (by rw [FU_eq]; omega)
  rw [Nat.zero_sub] at r1
  refine ⟨M', r1, (g2.trans f2).trans ((((Scr.refl M2).up (by omega)).up (by omega)).up (by omega) |>.trans r2), r3⟩
end LANE
