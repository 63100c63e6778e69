/-! appending: book; and shipOf -/
section NEWC
variable {k ns nc nv nt tn bn : Nat} {ch : Nat → Nat → List Nat} {S : TS} {P : TP} {N : TN} {M : TS}
theorem bk (c1 c2 c3 c4 c6 : Int32) {x : Nat} (hx : x < 400) (K : TS → Option (Int32 × TS)) : ∀ (n y : Nat) (M : TS), y ≤ 13 → 13 < y + n → ∃ M', f6_book_126 K c1 c2 c3 c4 (nI x) c6 n M (nI y) = K M' ∧ (∀ c i, ¬ (c = 3500 ∧ 13 * x ≤ i ∧ i < 13 * x + 13) → M' c i = M c i) ∧ (∀ q, q < y → M' 3500 (13 * x + q) = M 3500 (13 * x + q)) ∧ (∀ q, y ≤ q → q < 13 → M' 3500 (13 * x + q) = if q < 5 ∨ 9 < q then 0 else -1) := by
  intro n
  induction n with
  | zero => intro y M h1 h2; omega
  | succ n ih =>
    intro y M h1 h2
    rw [f6_book_126]
    rcases Nat.lt_or_ge y 13 with hy | hy
    · rw [if_neg (show ¬ (13 : Int32) ≤ nI y from nI_ge (b := 13) hy (by decide))]
      have step : ∀ v : Int32, v = (if y < 5 ∨ 9 < y then 0 else -1) → ∃ M', ((f6_put M (nI x) (nI y) v).bind fun M16 => f6_book_126 K c1 c2 c3 c4 (nI x) c6 n M16 (nI y + 1)) = K M' ∧ (∀ c i, ¬ (c = 3500 ∧ 13 * x ≤ i ∧ i < 13 * x + 13) → M' c i = M c i) ∧ (∀ q, q < y → M' 3500 (13 * x + q) = M 3500 (13 * x + q)) ∧ (∀ q, y ≤ q → q < 13 → M' 3500 (13 * x + q) = if q < 5 ∨ 9 < q then 0 else -1) := by
        intro v hv
        rw [put_at hx hy, Option.bind_some, nI_1]
        obtain ⟨M', e1, e2, e3, e4⟩ := ih (y + 1) (up M 3500 (13 * x + y) v) (by omega) (by omega)
        refine ⟨M', e1, ?_, ?_, ?_⟩
        · intro c i h
          rw [e2 c i h]
          by_cases hc : c = 3500
          · subst hc; exact up_i (fun e => h ⟨rfl, by omega, by omega⟩)
          · rw [up_c hc]
        · intro q hq
          rw [e3 q (by omega), up_i (by omega)]
        · intro q h1 h2
          by_cases e : q = y
          · subst e; rw [e3 q (by omega), up_v]; exact hv
          · exact e4 q (by omega) h2
      simp only [lt]
      by_cases a : y < 5
      · rw [if_pos (show nI y < (5 : Int32) from nI_lt (b := 5) a (by decide))]
        exact step 0 (by rw [if_pos (Or.inl a)])
      · rw [if_neg (show ¬ nI y < (5 : Int32) from nI_nlt (b := 5) (by omega) (by omega))]
        by_cases b : 9 < y
        · rw [if_pos (show (9 : Int32) < nI y from nI_lt (a := 9) b (by omega))]
          exact step 0 (by rw [if_pos (Or.inr b)])
        · rw [if_neg (show ¬ (9 : Int32) < nI y from nI_nlt (a := 9) (by omega) (by decide))]
          exact step (-1) (by rw [if_neg (by omega)])
    · have : y = 13 := by omega
      subst this
      rw [if_pos (show (13 : Int32) ≤ nI 13 from Int32.le_refl _)]
      exact ⟨M, rfl, fun _ _ _ => rfl, fun _ _ => rfl, fun q a b => by omega⟩
def fare (a2 a3 a4 z : Int32) : Int32 := (((((((500) + ((3) * a2)) + ((700) * a3)) + ((1500) * a4)) * ((100) + ((5) * z))) + (50)) / (100))
def sNt (S : TS) (nt : Nat) (n a2 a3 a4 f : Int32) : TS := up (up (up (up (up (up (up (up (up (up (up (up (clr S 4 nt) 406 nt 0) 407 nt (-1)) 408 nt (-1)) 409 nt (-1)) 410 nt (-1)) 411 nt (-1)) 400 nt n) 402 nt a2) 403 nt a3) 404 nt a4) 405 nt f) 507 0 (n + 1)
def pNt (P : TP) (nt s : Nat) : TP := up3 (up3 (clrP P 4 nt) 401 nt 0 (some s)) 1000 0 nt (some nt)
theorem sNt_o {nt s : Nat} {n a2 a3 a4 f : Int32} (e : s ≠ nt) (c : Nat) (hc : c ≠ 507) : sNt S nt n a2 a3 a4 f c s = S c s := by
  unfold sNt
  rw [up_c hc]; simp only [up_i e]
  unfold clr; rw [if_neg (fun q => e q.2)]
theorem pNt_o {nt s t : Nat} (e : t ≠ nt) (c j : Nat) (hc : c ≠ 1000) : pNt P nt s c t j = P c t j := by
  unfold pNt
  rw [up3_c hc, up3_i e]
  unfold clrP; rw [if_neg (fun q => e q.2)]
theorem sl_pNt {nt s t : Nat} : sl (pNt P nt s) t = if t = nt then s else sl P t := by
  by_cases e : t = nt
  · rw [if_pos e, e]; show ((up3 (clrP P 4 nt) 401 nt 0 (some s)) 401 nt 0).getD 0 = s; rw [up3_v]; rfl
  · rw [if_neg e]; unfold sl; rw [pNt_o e 401 0 (by decide)]
theorem tS_new {nt s : Nat} {n a2 a3 a4 f : Int32} (q : Nat) (hq : q < 13) : tS (sNt S nt n a2 a3 a4 f) (pNt P nt s) q nt = if q = 0 then nI s else if q = 1 then a2 else if q = 2 then a3 else if q = 3 then a4 else if q = 10 then f else if q < 5 ∨ 9 < q then 0 else -1 := by
  match q, hq with
  | 0, _ => show nI (sl (pNt P nt s) nt) = _; rw [sl_pNt, if_pos rfl]; rfl
  | 1, _ => simp [tS, sNt, up, upd]
  | 2, _ => simp [tS, sNt, up, upd]
  | 3, _ => simp [tS, sNt, up, upd]
  | 4, _ => simp [tS, sNt, up, upd]
  | 5, _ => simp [tS, sNt, up, upd]
  | 6, _ => simp [tS, sNt, up, upd]
  | 7, _ => simp [tS, sNt, up, upd]
  | 8, _ => simp [tS, sNt, up, upd]
  | 9, _ => simp [tS, sNt, up, upd]
  | 10, _ => simp [tS, sNt, up, upd]
  | 11, _ => simp [tS, sNt, up, upd, clr]
  | 12, _ => simp [tS, sNt, up, upd, clr]
theorem tS_old {nt s t : Nat} {n a2 a3 a4 f : Int32} (e : t ≠ nt) (q : Nat) (hq : q < 13) : tS (sNt S nt n a2 a3 a4 f) (pNt P nt s) q t = tS S P q t := by
  match q, hq with
  | 0, _ => show nI (sl (pNt P nt s) t) = _; rw [sl_pNt, if_neg e]; rfl
  | 1, _ => exact sNt_o e 402 (by decide)
  | 2, _ => exact sNt_o e 403 (by decide)
  | 3, _ => exact sNt_o e 404 (by decide)
  | 4, _ => exact sNt_o e 406 (by decide)
  | 5, _ => exact sNt_o e 407 (by decide)
  | 6, _ => exact sNt_o e 408 (by decide)
  | 7, _ => exact sNt_o e 409 (by decide)
  | 8, _ => exact sNt_o e 410 (by decide)
  | 9, _ => exact sNt_o e 411 (by decide)
  | 10, _ => exact sNt_o e 405 (by decide)
  | 11, _ => exact sNt_o e 412 (by decide)
  | 12, _ => exact sNt_o e 413 (by decide)
theorem CI_sNt (hC : CI k ns nc nv nt tn ch S P N) (hnt : nt < 400) {s L : Nat} (hs : s < nv) (hL : 20 ≤ L ∧ L ≤ 250) (a3 a4 f : Int32) : CI k ns nc nv (nt + 1) tn ch (sNt S nt (nI nt) (nI L) a3 a4 f) (pNt P nt s) (upN N 4) := by
  have e6 : sNt S nt (nI nt) (nI L) a3 a4 f 406 nt = 0 := by
    show up (clr S 4 nt) 406 nt 0 406 nt = 0; rw [up_v]
  have n0 : ¬ (0 : Int32) = 3 := by decide
  have ne : ∀ t, sNt S nt (nI nt) (nI L) a3 a4 f 406 t = 3 → t ≠ nt := fun t h e => by rw [e, e6] at h; exact n0 h
  have ost : ∀ t, t ≠ nt → st (pNt P nt s) t = st P t := fun t e => by
    unfold st; rw [sl_pNt, if_neg e]; rfl
  have ab : ∀ t, t < nt + 1 → sNt S nt (nI nt) (nI L) a3 a4 f 406 t = 3 → t < nt ∧ t ≠ nt ∧ S 406 t = 3 := by
    intro t ht h
    have e := ne t h
    rw [sNt_o e 406 (by decide)] at h
    exact ⟨by omega, e, h⟩
  have mem : ∀ i j t, i < ns → j < nn (S 1499 i) → t ∈ ch i j → t ≠ nt := fun i j t hi hj h => by
    have := ((hC.mem i j t hi hj).mp h).1; omega
  refine ⟨⟨⟨hC.c1, hC.c3, hC.c5, nI_1 nt⟩, ⟨hC.ns1, hC.nc1, hC.nv6, by omega⟩, ?_⟩, hC.ship, hC.cab, hC.cabn, hC.sail, hC.how, hC.one, ?_, ?_, ?_, ?_, ?_, ?_, ?_, hC.turn, ?_, ?_, ?_, ?_, ?_⟩
  · obtain ⟨a, b, c, d, e⟩ := hC.cnt.2.2
    exact ⟨a, b, c, d, by show N 4 + 1 = _; rw [e]⟩
  · intro s' t hs' hp
    obtain ⟨a, b, c, d, e⟩ := hC.ramp s' t hs' hp
    have h : t ≠ nt := by omega
    rw [sl_pNt, if_neg h, sNt_o h 406 (by decide), sNt_o h 411 (by decide)]
    exact ⟨by omega, b, c, d, e⟩
  · intro t ht
    by_cases e : t = nt
    · subst e
      refine ⟨by unfold pNt; rw [up3_v], ?_, ?_, ?_, ⟨L, ?_, hL.1, hL.2⟩, ⟨0, by decide, e6⟩, fun _ _ => ?_⟩
      · show up (up (up (up (up (up (up (clr S 4 t) 406 t 0) 407 t (-1)) 408 t (-1)) 409 t (-1)) 410 t (-1)) 411 t (-1)) 400 t (nI t) 400 t = _; rw [up_v]
      · rw [sl_pNt, if_pos rfl]; show up3 (clrP P 4 t) 401 t 0 (some s) 401 t 0 = _; rw [up3_v]
      · rw [sl_pNt, if_pos rfl]; exact hs
      · show up (up (up (up (up (up (up (up (clr S 4 t) 406 t 0) 407 t (-1)) 408 t (-1)) 409 t (-1)) 410 t (-1)) 411 t (-1)) 400 t (nI t)) 402 t (nI L) 402 t = _; rw [up_v]
      · show up (up (up (up (up (up (clr S 4 t) 406 t 0) 407 t (-1)) 408 t (-1)) 409 t (-1)) 410 t (-1)) 411 t (-1) 411 t = _; rw [up_v]
    · obtain ⟨a, b, c, d, g⟩ := hC.tick t (by omega)
      rw [sl_pNt, if_neg e, sNt_o e 400 (by decide), sNt_o e 402 (by decide), sNt_o e 406 (by decide), sNt_o e 411 (by decide), pNt_o e 401 0 (by decide)]
      refine ⟨?_, b, c, d, g⟩
      unfold pNt; rw [up3_j e]; exact a
  · intro t ht h
    obtain ⟨a, b, c⟩ := ab t ht h
    rw [sl_pNt, if_neg b]; exact hC.ab t a c
  · intro t ht h
    obtain ⟨a, b, c⟩ := ab t ht h
    rw [sNt_o b 411 (by decide), ost t b]; exact hC.cb t a c
  · intro c hc
    show S 102 c = 1 ↔ _
    rw [hC.tk c hc]
    constructor
    · rintro ⟨t, a, b, d⟩
      have : t ≠ nt := by omega
      exact ⟨t, by omega, by rw [sNt_o this 406 (by decide)]; exact b, by rw [sNt_o this 411 (by decide)]; exact d⟩
    · rintro ⟨t, a, b, d⟩
      obtain ⟨x, y, z⟩ := ab t a b
      rw [sNt_o y 411 (by decide)] at d
      exact ⟨t, x, z, d⟩
  · intro t t' ht ht' h h' q w
    obtain ⟨a, b, c⟩ := ab t ht h
    obtain ⟨a', b', c'⟩ := ab t' ht' h'
    rw [sNt_o b 411 (by decide)] at q w
    rw [sNt_o b' 411 (by decide)] at q
    exact hC.uq t t' a a' c c' q w
  · intro i hi
    show S 306 i = _
    rw [hC.std i hi]
    simp only [cnt]
    have ec := cnt_congr (n := nt) (p := fun t => decide (sNt S nt (nI nt) (nI L) a3 a4 f 406 t = 3 ∧ st (pNt P nt s) t = i)) (q := fun t => decide (S 406 t = 3 ∧ st P t = i)) (fun t ht => by rw [sNt_o (by omega) 406 (by decide), ost t (by omega)])
    rw [ec]
    have : ¬ (sNt S nt (nI nt) (nI L) a3 a4 f 406 nt = 3 ∧ st (pNt P nt s) nt = i) := fun q => ne nt q.1 rfl
    simp [this]
  · constructor
    · intro t ht h
      obtain ⟨a, b, c⟩ := ab t ht h
      rw [sNt_o b 414 (by decide)]; exact hC.brd.1 t a c
    · intro t t' ht ht' h h'
      obtain ⟨a, b, c⟩ := ab t ht h
      obtain ⟨a', b', c'⟩ := ab t' ht' h'
      rw [sNt_o b 414 (by decide), sNt_o b' 414 (by decide)]; exact hC.brd.2 t t' a a' c c'
  · intro i j hi hj
    exact linked_congr (fun t ht => pNt_o (mem i j t hi hj ht) 415 0 (by decide)) (hC.lnk i j hi hj)
  · intro i j t hi hj
    rw [hC.mem i j t hi hj]
    constructor
    · rintro ⟨a, b, c, d⟩
      have h : t ≠ nt := by omega
      rw [sNt_o h 406 (by decide), sNt_o h 408 (by decide), sNt_o h 409 (by decide), ost t h]
      exact ⟨by omega, b, c, d⟩
    · rintro ⟨a, b, c, d⟩
      obtain ⟨x, h, z⟩ := ab t a b
      rw [sNt_o h 408 (by decide), sNt_o h 409 (by decide)] at d
      rw [ost t h] at c
      exact ⟨x, z, c, d⟩
  · intro t ht h3
    obtain ⟨x, h, z⟩ := ab t ht h3
    rw [sNt_o h 408 (by decide), sNt_o h 409 (by decide), ost t h]
    exact hC.dl t x z
  · intro i j hi hj
    obtain ⟨a, b, c, d⟩ := hC.ctg i j hi hj
    have m := fun t ht => mem i j t hi hj ht
    refine ⟨contig_congr (fun t ht => ⟨sNt_o (m t ht) 410 (by decide), sNt_o (m t ht) 402 (by decide)⟩) a, ?_, c, ?_⟩
    · rw [total_congr (fun t ht => sNt_o (m t ht) 402 (by decide))]; exact b
    · exact d.imp_of_mem (fun {x y} hx hy h => by rw [sNt_o (m x hx) 414 (by decide), sNt_o (m y hy) 414 (by decide)]; exact h)
theorem MI_sNt (hC : CI k ns nc nv nt tn ch S P N) (hM : MI ns nc nv nt tn bn S P M) {s L : Nat} (a3 a4 f : Int32) {M' : TS} (hm : ∀ c i, ¬ (c = 3500 ∧ 13 * nt ≤ i ∧ i < 13 * nt + 13) → M' c i = up M 623 0 (nI nt + 1) c i) (hq : ∀ q, q < 13 → M' 3500 (13 * nt + q) = tS (sNt S nt (nI nt) (nI L) a3 a4 f) (pNt P nt s) q nt) : MI ns nc nv (nt + 1) tn bn (sNt S nt (nI nt) (nI L) a3 a4 f) (pNt P nt s) M' := by
  have e6 : sNt S nt (nI nt) (nI L) a3 a4 f 406 nt = 0 := by
    show up (clr S 4 nt) 406 nt 0 406 nt = 0; rw [up_v]
  have n0 : ¬ (0 : Int32) = 3 := by decide
  have ab : ∀ t, t < nt + 1 → sNt S nt (nI nt) (nI L) a3 a4 f 406 t = 3 → t < nt ∧ t ≠ nt ∧ S 406 t = 3 := by
    intro t ht h
    have e : t ≠ nt := fun e => by rw [e, e6] at h; exact n0 h
    rw [sNt_o e 406 (by decide)] at h
    exact ⟨by omega, e, h⟩
  have hx : ∀ c i, c ≠ 3500 → c ≠ 623 → M' c i = M c i := fun c i h h' => by rw [hm c i (fun q => h q.1), up_c h']
  have h623 : M' 623 0 = nI (nt + 1) := by rw [hm 623 0 (fun q => absurd q.1 (by decide)), up_v, nI_1]
  refine ⟨⟨by rw [hx 620 0 (by decide) (by decide)]; exact hM.cnt.1, by rw [hx 621 0 (by decide) (by decide)]; exact hM.cnt.2.1, by rw [hx 622 0 (by decide) (by decide)]; exact hM.cnt.2.2.1, h623⟩, ?_, ?_, ?_, ?_, ?_, ?_, ?_, ?_, ?_, ?_, ?_⟩
  · intro i hi; rw [hx 2000 i (by decide) (by decide), hx 2100 i (by decide) (by decide), hx 2200 i (by decide) (by decide), hx 2300 i (by decide) (by decide)]; exact hM.ship i hi
  · intro c hc; rw [hx 2400 c (by decide) (by decide), hx 2500 c (by decide) (by decide)]; exact hM.cab c hc
  · intro i hi; rw [hx 2600 i (by decide) (by decide), hx 2700 i (by decide) (by decide), hx 2800 i (by decide) (by decide)]; exact hM.sail i hi
  · intro i hi; rw [hx 2900 i (by decide) (by decide), hx 3000 i (by decide) (by decide), hx 3100 i (by decide) (by decide)]; exact hM.how i hi
  · intro i hi; rw [hx 3400 i (by decide) (by decide)]; exact hM.off i hi
  · intro i hi; rw [hx 3200 i (by decide) (by decide), hx 3300 i (by decide) (by decide)]; exact hM.ramp i hi
  · intro t q ht hq'
    by_cases e : t = nt
    · rw [e]; exact hq q hq'
    · rw [hm 3500 _ (by omega), up_c (by decide), tS_old e q hq']; exact hM.tick t q (by omega) hq'
  · rw [MI_turn, hx 624 0 (by decide) (by decide), hx 625 0 (by decide) (by decide)]; exact hM.turn
  · constructor
    · intro t ht h
      obtain ⟨a, b, c⟩ := ab t ht h
      rw [hx 3600 t (by decide) (by decide)]; exact hM.brd.1 t a c
    · intro t t' ht ht' h h'
      obtain ⟨a, b, c⟩ := ab t ht h
      obtain ⟨a', b', c'⟩ := ab t' ht' h'
      rw [sNt_o b 414 (by decide), sNt_o b' 414 (by decide), hx 3600 t (by decide) (by decide), hx 3600 t' (by decide) (by decide)]; exact hM.brd.2 t t' a a' c c'
  · intro i hi; rw [hx 3700 i (by decide) (by decide), hx 3800 i (by decide) (by decide), hx 3900 i (by decide) (by decide)]; exact hM.log i hi
  · intro i hi; rw [hx 2900 i (by decide) (by decide), hx 3000 i (by decide) (by decide), hx 3300 i (by decide) (by decide), hx 3400 i (by decide) (by decide)]; exact hM.new i hi
theorem takes5 {s : Nat} : f2_takesTickets S P s = some (if (S 204 s = 0 ∨ S 204 s = 1) ∧ S 206 s = -1 then 1 else 0) := by
  unfold f2_takesTickets
  rw [toGo5]
  by_cases h : S 204 s = 0 ∨ S 204 s = 1
  · rw [if_pos h]
    simp only [Option.bind_some, if_neg one_ne]
    by_cases h2 : S 206 s = -1
    · rw [if_pos h2, if_pos ⟨h, h2⟩]
    · rw [if_neg h2, if_neg (fun q => h2 q.2)]
  · rw [if_neg h, if_neg (show ¬ ((S 204 s = 0 ∨ S 204 s = 1) ∧ S 206 s = -1) from fun q => h q.1)]; rfl
theorem B_book_ok : B_book Inv := by
  rintro k S P N M a1 a2 a3 a4 hk ⟨ns, nc, nv, nt, tn, bn, ch, hC, hM, hR⟩
  have hI : Inv (k + 1) S P N M := Inv_up _ _ _ _ _ ⟨ns, nc, nv, nt, tn, bn, ch, hC, hM, hR⟩
  have hv := hC.nv6
  have hb := hC.nt4
  have hns := hC.ns1
  have none_ : (a1 < 0 ∨ nI nv ≤ a1) → ∃ v S' P' N' M', f5_book S P N a1 a2 a3 a4 = some (v, S', P', N') ∧ f6_book M a1 a2 a3 a4 = some (v, M') ∧ Inv (k + 1) S' P' N' M' := by
    intro h
    refine ⟨-1, S, P, N, M, ?_, ?_, hI⟩
    · unfold f5_book; rw [sn_none hC h]; rfl
    · unfold f6_book; rw [isS_none hM h]; rfl
  rcases pk_ix a1 (n := nv) (by omega) with h | h | ⟨s, hs, rfl⟩
  · exact none_ (Or.inl h)
  · exact none_ (Or.inr h)
  · have n4 : N 4 = nt := hC.cnt.2.2.2.2.2.2
    have hvs := hC.s3 hs
    have e6 : ∀ X : TS → Option (Int32 × TS), f6_book M (nI s) a2 a3 a4 = (f5_within a2 20 250).bind fun v3 => if v3 = 0 then some (-1, M) else (f5_within a3 0 2).bind fun v5 => if v5 = 0 then some (-1, M) else (f5_within a4 0 6).bind fun v7 => if v7 = 0 then some (-1, M) else if S 204 s = 0 ∨ S 204 s = 1 then (if S 206 s = -1 then (if S 303 (vs P s) < a2 then some (-1, M) else if nI nt = 400 then some (-1, M) else f6_book_126 (fun (M18 : TS) =>
  (f6_put M18 (nI nt) (0) (nI s)).bind fun (M19 : TS) =>
  (f6_put M19 (nI nt) (1) a2).bind fun (M21 : TS) =>
  (f6_put M21 (nI nt) (2) a3).bind fun (M23 : TS) =>
  (f6_put M23 (nI nt) (3) a4).bind fun (M25 : TS) =>
  (f6_put M25 (nI nt) (10) (fare a2 a3 a4 (M25 2800 s))).bind fun (M28 : TS) =>
  some (nI nt, M28)) (nI s) a2 a3 a4 (nI nt) ((((500) + ((3) * a2)) + ((700) * a3)) + ((1500) * a4)) FU (up M 623 0 (nI nt + 1)) (0)) else some (-1, M)) else some (-1, M) := by
      intro _
      unfold f6_book
      rw [isS_some hM hv hs, isIn_eq, isIn_eq, isIn_eq, toGo6 hM hv hs]
      simp only [Option.bind_some, if_neg one_ne, ix_nI (show s < 60 by omega) (by decide), (hM.how s hs).2.2, (hM.sail s hs).1, ix_nI (show vs P s < 12 by omega) (by decide), (hM.ship (vs P s) hvs).2.2.1, hM.cnt.2.2.2, lt]
      by_cases g : S 204 s = 0 ∨ S 204 s = 1
      · simp only [if_pos g, if_neg one_ne]; rfl
      · simp only [if_neg g]; rfl
    rw [e6 (fun _ => none)]
    unfold f5_book
    rw [sn_some hC hs, hC.c7]
    simp only [Option.bind_some, Option.elim_some, lt, hC.s2 hs, takes5]
    have fin : ∀ v S' P' N', v = -1 → S' = S → P' = P → N' = N → (f5_within a2 20 250 = some 0 ∨ f5_within a3 0 2 = some 0 ∨ f5_within a4 0 6 = some 0 ∨ ¬ (S 204 s = 0 ∨ S 204 s = 1) ∨ ¬ S 206 s = -1 ∨ S 303 (vs P s) < a2 ∨ nI nt = 400) → ∀ Y : Option (Int32 × TS), ∃ v2 S2 P2 N2 M2, some (v, S', P', N') = some (v2, S2, P2, N2) ∧ ((f5_within a2 20 250).bind fun v3 => if v3 = 0 then some (-1, M) else (f5_within a3 0 2).bind fun v5 => if v5 = 0 then some (-1, M) else (f5_within a4 0 6).bind fun v7 => if v7 = 0 then some (-1, M) else if S 204 s = 0 ∨ S 204 s = 1 then (if S 206 s = -1 then (if S 303 (vs P s) < a2 then some (-1, M) else if nI nt = 400 then some (-1, M) else Y) else some (-1, M)) else some (-1, M)) = some (v2, M2) ∧ Inv (k + 1) S2 P2 N2 M2 := by
      rintro v S' P' N' rfl rfl rfl rfl hf Y
      refine ⟨_, _, _, _, M, rfl, ?_, hI⟩
      rcases within_c a2 20 250 with ⟨w2, -⟩ | ⟨w2, -⟩
      · rcases within_c a3 0 2 with ⟨w3, -⟩ | ⟨w3, -⟩
        · rcases within_c a4 0 6 with ⟨w4, -⟩ | ⟨w4, -⟩
          · rw [w2, w3, w4] at hf
            rw [w2, w3, w4]
            simp only [Option.bind_some, if_neg one_ne]
            by_cases g1 : S' 204 s = 0 ∨ S' 204 s = 1
            · rw [if_pos g1]
              by_cases g2 : S' 206 s = -1
              · rw [if_pos g2]
                by_cases g3 : S' 303 (vs P' s) < a2
                · rw [if_pos g3]
                · rw [if_neg g3]
                  by_cases g4 : nI nt = 400
                  · rw [if_pos g4]
                  · exfalso
                    rcases hf with hf | hf | hf | hf | hf | hf | hf
                    · exact one_ne (Option.some.inj hf)
                    · exact one_ne (Option.some.inj hf)
                    · exact one_ne (Option.some.inj hf)
                    · exact hf g1
                    · exact hf g2
                    · exact g3 hf
                    · exact g4 hf
              · rw [if_neg g2]
            · rw [if_neg g1]
          · rw [w2, w3, w4]; simp only [Option.bind_some, if_neg one_ne, if_true]
        · rw [w2, w3]; simp only [Option.bind_some, if_neg one_ne, if_true]
      · rw [w2]; simp only [Option.bind_some, if_true]
    by_cases g1 : (S 204 s = 0 ∨ S 204 s = 1) ∧ S 206 s = -1
    · simp only [if_pos g1, if_neg one_ne]
      rcases Nat.lt_or_ge nt 400 with hnt | hnt
      · rw [if_pos (show nI nt < (400 : Int32) from nI_lt (b := 400) hnt (by decide))]
        rcases within_c a2 20 250 with ⟨w2, x1, x2⟩ | ⟨w2, -⟩
        · rcases within_c a3 0 2 with ⟨w3, -⟩ | ⟨w3, -⟩
          · rcases within_c a4 0 6 with ⟨w4, -⟩ | ⟨w4, -⟩
            · by_cases g2 : a2 ≤ S 303 (vs P s)
              · have g3 : ¬ S 303 (vs P s) < a2 := by
                  rw [Int32.le_iff_toInt_le] at g2; rw [Int32.lt_iff_toInt_lt]; omega
                rw [w2, w3, w4]
                simp only [Option.bind_some, if_neg one_ne, if_pos g2, if_neg g3, if_pos g1.1, if_pos g1.2]
                rw [if_neg (show ¬ nI nt = (400 : Int32) from fun e => by have := nI_inj (b := 400) (by omega) (by decide) e; omega)]
                obtain ⟨L, rfl, hL1, hL2⟩ := within_nat (a := 20) (b := 250) (by decide) (by decide) x1 x2
                obtain ⟨M1, m1, m2, m3, m4⟩ := bk (nI s) (nI L) a3 a4 ((((500) + ((3) * nI L)) + ((700) * a3)) + ((1500) * a4)) hnt (fun (M18 : TS) =>
  (f6_put M18 (nI nt) (0) (nI s)).bind fun (M19 : TS) =>
  (f6_put M19 (nI nt) (1) (nI L)).bind fun (M21 : TS) =>
  (f6_put M21 (nI nt) (2) a3).bind fun (M23 : TS) =>
  (f6_put M23 (nI nt) (3) a4).bind fun (M25 : TS) =>
  (f6_put M25 (nI nt) (10) (fare (nI L) a3 a4 (M25 2800 s))).bind fun (M28 : TS) =>
  some (nI nt, M28)) FU 0 (up M 623 0 (nI nt + 1)) (by decide) (by rw [FU_eq]; omega)
                have m1' : f6_book_126 (fun (M18 : TS) =>
  (f6_put M18 (nI nt) (0) (nI s)).bind fun (M19 : TS) =>
  (f6_put M19 (nI nt) (1) (nI L)).bind fun (M21 : TS) =>
  (f6_put M21 (nI nt) (2) a3).bind fun (M23 : TS) =>
  (f6_put M23 (nI nt) (3) a4).bind fun (M25 : TS) =>
  (f6_put M25 (nI nt) (10) (fare (nI L) a3 a4 (M25 2800 s))).bind fun (M28 : TS) =>
  some (nI nt, M28)) (nI s) (nI L) a3 a4 (nI nt) ((((500) + ((3) * nI L)) + ((700) * a3)) + ((1500) * a4)) FU (up M 623 0 (nI nt + 1)) 0 = _ := m1
                rw [m1', put0 hnt]
                simp only [Option.bind_some, put1 hnt, put2 hnt, put3 hnt, put10 hnt]
                have e28 : up (up (up (up M1 3500 (13 * nt + 0) (nI s)) 3500 (13 * nt + 1) (nI L)) 3500 (13 * nt + 2) a3) 3500 (13 * nt + 3) a4 2800 s = S 203 s := by
                  show M1 2800 s = _
                  rw [m2 2800 s (fun q => absurd q.1 (by decide))]
                  exact (hM.sail s hs).2.2
                rw [e28]
                have f5 : f5_fare (nI L) a3 a4 (S 203 s) = some (fare (nI L) a3 a4 (S 203 s)) := rfl
                rw [f5, n4, ix_nI hnt (by decide)]
                refine ⟨nI nt, sNt S nt (nI nt) (nI L) a3 a4 (fare (nI L) a3 a4 (S 203 s)), pNt P nt s, upN N 4, _, ?_, rfl, Inv_up _ _ _ _ _ ⟨ns, nc, nv, nt + 1, tn, bn, ch, CI_sNt hC hnt hs ⟨hL1, hL2⟩ a3 a4 _, MI_sNt hC hM a3 a4 _ ?_ ?_, ?_⟩⟩
                · show some (S 507 0, sNt S nt (S 507 0) (nI L) a3 a4 (fare (nI L) a3 a4 (S 203 s)), pNt P nt s, upN N 4) = _
                  rw [hC.c7]
                · intro c i h
                  rw [← m2 c i h]
                  by_cases hc : c = 3500
                  · subst hc
                    rw [up_i (by omega), up_i (by omega), up_i (by omega), up_i (by omega), up_i (by omega)]
                  · rw [up_c hc, up_c hc, up_c hc, up_c hc, up_c hc]
                · intro q hq
                  rw [tS_new q hq]
                  have m4q := m4 q (Nat.zero_le _) hq
                  by_cases q0 : q = 0
                  · subst q0; rw [up_i (by omega), up_i (by omega), up_i (by omega), up_i (by omega), up_v, if_pos rfl]
                  · by_cases q1 : q = 1
                    · subst q1; rw [up_i (by omega), up_i (by omega), up_i (by omega), up_v]; rfl
                    · by_cases q2 : q = 2
                      · subst q2; rw [up_i (by omega), up_i (by omega), up_v]; rfl
                      · by_cases q3 : q = 3
                        · subst q3; rw [up_i (by omega), up_v]; rfl
                        · by_cases qa : q = 10
                          · subst qa; rw [up_v]; rfl
                          · rw [up_i (by omega), up_i (by omega), up_i (by omega), up_i (by omega), up_i (by omega), if_neg q0, if_neg q1, if_neg q2, if_neg q3, if_neg qa]; exact m4q
                · intro s' hs' q1 q2
                  obtain ⟨t, h1, h2, h3⟩ := hR s' hs' q1 q2
                  have e : t ≠ nt := by omega
                  exact ⟨t, by omega, by rw [sl_pNt, if_neg e]; exact h2, by rw [sNt_o e 406 (by decide)]; exact h3⟩
              · have := fin (-1) S P N rfl rfl rfl rfl (Or.inr (Or.inr (Or.inr (Or.inr (Or.inr (Or.inl (by
                  rw [Int32.le_iff_toInt_le] at g2; rw [Int32.lt_iff_toInt_lt]; omega)))))))
                rw [w2, w3, w4] at this ⊢
                simp only [Option.bind_some, if_neg one_ne, if_neg g2] at this ⊢
                exact this _
            · have := fin (-1) S P N rfl rfl rfl rfl (Or.inr (Or.inr (Or.inl w4)))
              rw [w2, w3, w4] at this ⊢
              simp only [Option.bind_some, if_neg one_ne, if_true] at this ⊢
              exact this none
          · have := fin (-1) S P N rfl rfl rfl rfl (Or.inr (Or.inl w3))
            rw [w2, w3] at this ⊢
            simp only [Option.bind_some, if_neg one_ne, if_true] at this ⊢
            exact this none
        · have := fin (-1) S P N rfl rfl rfl rfl (Or.inl w2)
          rw [w2] at this ⊢
          simp only [Option.bind_some, if_neg one_ne, if_true] at this ⊢
          exact this none
      · have e4 : nt = 400 := by omega
        rw [if_neg (show ¬ nI nt < (400 : Int32) by rw [e4]; decide)]
        exact fin (-1) S P N rfl rfl rfl rfl (Or.inr (Or.inr (Or.inr (Or.inr (Or.inr (Or.inr (by rw [e4]; rfl))))))) _
    · simp only [if_neg g1, if_true]
      by_cases g : S 204 s = 0 ∨ S 204 s = 1
      · exact fin (-1) S P N rfl rfl rfl rfl (Or.inr (Or.inr (Or.inr (Or.inr (Or.inl (fun q => g1 ⟨g, q⟩)))))) _
      · exact fin (-1) S P N rfl rfl rfl rfl (Or.inr (Or.inr (Or.inr (Or.inl g)))) _
end NEWC
