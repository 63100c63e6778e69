/-! THE PURE SIDE: numbers, invariants -/
theorem ix_nI {i n : Nat} (h : i < n) (hn : n < 2 ^ 31) : ix (nI i) n = some i := by
  unfold ix
  rw [if_neg (nI_pos (by omega)), nI_clamp (by omega), if_neg (by omega)]
theorem nI_neg1 {n : Nat} (h : n < 2 ^ 31) : ¬ nI n = -1 := by
  intro e
  have h1 := congrArg Int32.toInt e
  rw [nI_toInt h, show (-1 : Int32).toInt = -1 from by decide] at h1
  omega
theorem neg1_lt (n : Nat) (h : n < 2 ^ 31) : (-1 : Int32) < nI n := by
  rw [Int32.lt_iff_toInt_lt, nI_toInt h, show (-1 : Int32).toInt = -1 from by decide]; omega
theorem nI_inj {a b : Nat} (ha : a < 2 ^ 31) (hb : b < 2 ^ 31) (h : nI a = nI b) : a = b := (nI_eq ha hb).mp h
def oI (r : Option Nat) : Int32 := match r with
  | none => -1
  | some t => nI t
theorem oI_none : oI none = -1 := rfl
theorem oI_some (t : Nat) : oI (some t) = nI t := rfl
def nn (x : Int32) : Nat := x.toNatClampNeg
theorem nn_nI {n : Nat} (h : n < 2 ^ 31) : nn (nI n) = n := nI_clamp h
theorem sub1_lt {n : Nat} (hn : n < 2 ^ 30) {x : Int32} : nI n - 1 < x ↔ nI n ≤ x := by
  rw [Int32.lt_iff_toInt_lt, Int32.le_iff_toInt_le, show nI n - 1 = nI n - nI 1 from rfl, pk_sub_toInt hn (by decide), nI_toInt (by omega)]; omega
theorem nI_sub1 {n : Nat} (h : 0 < n) : nI n - 1 = nI (n - 1) := pk_sub (b := 1) h
theorem within_t {x a b : Int32} (h1 : ¬ x < a) (h2 : ¬ b < x) : f5_within x a b = some 1 := by unfold f5_within; rw [if_neg h1, if_neg h2]
theorem within_f {x a b : Int32} (h : x < a ∨ b < x) : f5_within x a b = some 0 := by
  unfold f5_within
  by_cases h1 : x < a
  · rw [if_pos h1]
  · rw [if_neg h1, if_pos (h.resolve_left h1)]
theorem isIn_eq (x a b : Int32) : f6_isIn x a b = f5_within x a b := rfl
theorem within_c (x a b : Int32) : (f5_within x a b = some 1 ∧ ¬ x < a ∧ ¬ b < x) ∨ (f5_within x a b = some 0 ∧ (x < a ∨ b < x)) := by
  by_cases h1 : x < a
  · exact Or.inr ⟨within_f (Or.inl h1), Or.inl h1⟩
  · by_cases h2 : b < x
    · exact Or.inr ⟨within_f (Or.inr h2), Or.inr h2⟩
    · exact Or.inl ⟨within_t h1 h2, h1, h2⟩
/-- an argument within bounds is one of the numbers -/
theorem within_nat {x : Int32} {a b : Nat} (ha : a < 2 ^ 31) (hb : b < 2 ^ 31) (h1 : ¬ x < nI a) (h2 : ¬ nI b < x) : ∃ n : Nat, x = nI n ∧ a ≤ n ∧ n ≤ b := by
  rw [Int32.lt_iff_toInt_lt, nI_toInt ha] at h1
  rw [Int32.lt_iff_toInt_lt, nI_toInt hb] at h2
  refine ⟨x.toInt.toNat, ?_, by omega, by omega⟩
  apply Int32.toInt_inj.mp
  rw [nI_toInt (by omega)]; omega
def cnt (p : Nat → Bool) : Nat → Nat
  | 0 => 0
  | n + 1 => cnt p n + (if p n then 1 else 0)
theorem cnt_le (p : Nat → Bool) : ∀ n, cnt p n ≤ n
  | 0 => Nat.le_refl 0
  | n + 1 => by have := cnt_le p n; simp only [cnt]; split <;> omega
theorem cnt_congr {p q : Nat → Bool} : ∀ {n : Nat}, (∀ k, k < n → p k = q k) → cnt p n = cnt q n
  | 0, _ => rfl
  | n + 1, h => by simp only [cnt]; rw [cnt_congr (fun k hk => h k (by omega)), h n (by omega)]
theorem cnt_set {p q : Nat → Bool} {i : Nat} : ∀ {n : Nat}, i < n → (∀ k, k ≠ i → k < n → q k = p k) → p i = false → q i = true → cnt q n = cnt p n + 1
  | 0, h, _, _, _ => absurd h (by omega)
  | n + 1, h, hq, h0, h1 => by
    simp only [cnt]
    by_cases hi : i = n
    · subst hi
      rw [cnt_congr (q := p) (fun k hk => hq k (by omega) (by omega)), h0, h1]; simp
    · rw [cnt_set (i := i) (by omega) (fun k hk hk' => hq k hk (by omega)) h0 h1, hq n (by omega) (by omega)]; omega
theorem cnt_pos {p : Nat → Bool} {i : Nat} : ∀ {n : Nat}, i < n → p i = true → 0 < cnt p n
  | 0, h, _ => absurd h (by omega)
  | n + 1, h, hp => by
    simp only [cnt]
    by_cases hi : i = n
    · subst hi; rw [hp]; simp
    · have := cnt_pos (p := p) (n := n) (i := i) (by omega) hp; omega
def sl (P : TP) (t : Nat) : Nat := (P 401 t 0).getD 0
def vs (P : TP) (s : Nat) : Nat := (P 201 s 0).getD 0
def cs (P : TP) (c : Nat) : Nat := (P 100 c 0).getD 0
/-- ship of a ticket's sailing -/
def st (P : TP) (t : Nat) : Nat := vs P (sl P t)
def linked (b : Nat → Nat → Option Nat) : Option Nat → List Nat → Prop
  | r, [] => r = none
  | r, t :: l => r = some t ∧ linked b (b t 0) l
/-- from place p on without a gap -/
def contig (pl ln : Nat → Int32) : Nat → List Nat → Prop
  | _, [] => True
  | p, t :: l => pl t = nI p ∧ contig pl ln (p + nn (ln t)) l
def total (ln : Nat → Int32) : List Nat → Nat
  | [] => 0
  | t :: l => nn (ln t) + total ln l
def tS (S : TS) (P : TP) (q t : Nat) : Int32 := match q with
  | 0 => nI (sl P t)
  | 1 => S 402 t
  | 2 => S 403 t
  | 3 => S 404 t
  | 4 => S 406 t
  | 5 => S 407 t
  | 6 => S 408 t
  | 7 => S 409 t
  | 8 => S 410 t
  | 9 => S 411 t
  | 10 => S 405 t
  | 11 => S 412 t
  | _ => S 413 t
def CI_cnt (ns : Nat) (nc : Nat) (nv : Nat) (nt : Nat) (S : TS) (N : TN) : Prop := (S 501 0 = nI ns ∧ S 503 0 = nI nc ∧ S 505 0 = nI nv ∧ S 507 0 = nI nt) ∧ (ns ≤ 12 ∧ nc ≤ 120 ∧ nv ≤ 60 ∧ nt ≤ 400) ∧ (N 3 = ns ∧ N 14 = ns ∧ N 1 = nc ∧ N 2 = nv ∧ N 4 = nt)
def CI_ship (ns : Nat) (S : TS) (P : TP) : Prop := ∀ i, i < ns → P 700 0 i = some i ∧ P 307 i 0 = some i ∧ S 300 i = nI i ∧ (∃ d l n : Nat, S 301 i = nI d ∧ S 302 i = nI l ∧ S 303 i = nI n ∧ 1 ≤ d ∧ d ≤ 4 ∧ 1 ≤ l ∧ l ≤ 6 ∧ 50 ≤ n ∧ n ≤ 2000 ∧ S 1499 i = nI (d * l)) ∧ (S 304 i = 0 ∨ S 304 i = 1)
def CI_cab (ns : Nat) (nc : Nat) (S : TS) (P : TP) : Prop := ∀ c, c < nc → P 800 0 c = some c ∧ P 100 c 0 = some (cs P c) ∧ cs P c < ns ∧ (S 102 c = 0 ∨ S 102 c = 1)
def CI_cabn (ns : Nat) (nc : Nat) (S : TS) (P : TP) : Prop := ∀ i, i < ns → S 305 i = nI (cnt (fun c => decide (cs P c = i)) nc)
def CI_sail (ns : Nat) (nv : Nat) (S : TS) (P : TP) : Prop := ∀ s, s < nv → P 900 0 s = some s ∧ S 200 s = nI s ∧ P 201 s 0 = some (vs P s) ∧ vs P s < ns
def CI_how (nv : Nat) (S : TS) (P : TP) : Prop := ∀ s, s < nv → (S 204 s = 0 ∨ S 204 s = 1 ∨ S 204 s = 2 ∨ S 204 s = 3) ∧ (S 206 s = -1 ∨ ∃ r : Nat, r ≤ 1000 ∧ S 206 s = nI r) ∧ (S 204 s = 0 → S 206 s = -1) ∧ (S 206 s = 0 → P 207 s 0 = none)
def CI_one (nv : Nat) (S : TS) (P : TP) : Prop := ∀ s s', s < nv → s' < nv → S 204 s = 1 → S 204 s' = 1 → vs P s = vs P s' → s = s'
def CI_ramp (nv : Nat) (nt : Nat) (S : TS) (P : TP) : Prop := ∀ s t, s < nv → P 207 s 0 = some t → t < nt ∧ S 406 t = 3 ∧ sl P t = s ∧ S 204 s = 1 ∧ (S 208 s = 0 ∨ S 208 s = 1 ∧ S 411 t = -1)
def CI_tick (nv : Nat) (nt : Nat) (S : TS) (P : TP) : Prop := ∀ t, t < nt → P 1000 0 t = some t ∧ S 400 t = nI t ∧ P 401 t 0 = some (sl P t) ∧ sl P t < nv ∧ (∃ L : Nat, S 402 t = nI L ∧ 20 ≤ L ∧ L ≤ 250) ∧ (∃ h : Nat, h ≤ 7 ∧ S 406 t = nI h) ∧ (¬ S 406 t = 3 → ¬ S 406 t = 6 → S 411 t = -1)
def CI_ab (nt : Nat) (S : TS) (P : TP) : Prop := ∀ t, t < nt → S 406 t = 3 → S 204 (sl P t) = 1
def CI_cb (nc : Nat) (nt : Nat) (S : TS) (P : TP) : Prop := ∀ t, t < nt → S 406 t = 3 → S 411 t = -1 ∨ ∃ c, c < nc ∧ S 411 t = nI c ∧ cs P c = st P t
def CI_tk (nc : Nat) (nt : Nat) (S : TS) : Prop := ∀ c, c < nc → (S 102 c = 1 ↔ ∃ t, t < nt ∧ S 406 t = 3 ∧ S 411 t = nI c)
def CI_uq (nt : Nat) (S : TS) : Prop := ∀ t t', t < nt → t' < nt → S 406 t = 3 → S 406 t' = 3 → S 411 t = S 411 t' → ¬ S 411 t = -1 → t = t'
def CI_std (ns : Nat) (nt : Nat) (S : TS) (P : TP) : Prop := ∀ i, i < ns → S 306 i = nI (cnt (fun t => decide (S 406 t = 3 ∧ st P t = i)) nt)
def CI_turn (k : Nat) (tn : Nat) (S : TS) : Prop := S 511 0 = nI tn ∧ tn ≤ 500 * k
def CI_brd (nt : Nat) (tn : Nat) (S : TS) : Prop := (∀ t, t < nt → S 406 t = 3 → ∃ x, x < tn ∧ S 414 t = nI x) ∧ (∀ t t', t < nt → t' < nt → S 406 t = 3 → S 406 t' = 3 → S 414 t = S 414 t' → t = t')
def CI_lnk (ns : Nat) (ch : Nat → Nat → List Nat) (S : TS) (P : TP) : Prop := ∀ i j, i < ns → j < nn (S 1499 i) → linked (P 415) (P 1400 i j) (ch i j)
def CI_mem (ns : Nat) (nt : Nat) (ch : Nat → Nat → List Nat) (S : TS) (P : TP) : Prop := ∀ i j t, i < ns → j < nn (S 1499 i) → (t ∈ ch i j ↔ t < nt ∧ S 406 t = 3 ∧ st P t = i ∧ (S 408 t * S 302 i + S 409 t = nI j))
def CI_dl (nt : Nat) (S : TS) (P : TP) : Prop := ∀ t, t < nt → S 406 t = 3 → ∃ d l : Nat, S 408 t = nI d ∧ S 409 t = nI l ∧ d < nn (S 301 (st P t)) ∧ l < nn (S 302 (st P t))
def CI_ctg (ns : Nat) (ch : Nat → Nat → List Nat) (S : TS) : Prop := ∀ i j, i < ns → j < nn (S 1499 i) → contig (S 410) (S 402) 0 (ch i j) ∧ total (S 402) (ch i j) ≤ nn (S 303 i) ∧ (ch i j).Nodup ∧ (ch i j).Pairwise (fun a b => S 414 a < S 414 b)
def CI (k ns nc nv nt tn : Nat) (ch : Nat → Nat → List Nat) (S : TS) (P : TP) (N : TN) : Prop := CI_cnt ns nc nv nt S N ∧ CI_ship ns S P ∧ CI_cab ns nc S P ∧ CI_cabn ns nc S P ∧ CI_sail ns nv S P ∧ CI_how nv S P ∧ CI_one nv S P ∧ CI_ramp nv nt S P ∧ CI_tick nv nt S P ∧ CI_ab nt S P ∧ CI_cb nc nt S P ∧ CI_tk nc nt S ∧ CI_uq nt S ∧ CI_std ns nt S P ∧ CI_turn k tn S ∧ CI_brd nt tn S ∧ CI_lnk ns ch S P ∧ CI_mem ns nt ch S P ∧ CI_dl nt S P ∧ CI_ctg ns ch S
theorem CI.cnt {k ns nc nv nt tn : Nat} {ch : Nat → Nat → List Nat} {S : TS} {P : TP} {N : TN} (h : CI k ns nc nv nt tn ch S P N) : CI_cnt ns nc nv nt S N := h.1
theorem CI.ship {k ns nc nv nt tn : Nat} {ch : Nat → Nat → List Nat} {S : TS} {P : TP} {N : TN} (h : CI k ns nc nv nt tn ch S P N) : CI_ship ns S P := h.2.1
theorem CI.cab {k ns nc nv nt tn : Nat} {ch : Nat → Nat → List Nat} {S : TS} {P : TP} {N : TN} (h : CI k ns nc nv nt tn ch S P N) : CI_cab ns nc S P := h.2.2.1
theorem CI.cabn {k ns nc nv nt tn : Nat} {ch : Nat → Nat → List Nat} {S : TS} {P : TP} {N : TN} (h : CI k ns nc nv nt tn ch S P N) : CI_cabn ns nc S P := h.2.2.2.1
theorem CI.sail {k ns nc nv nt tn : Nat} {ch : Nat → Nat → List Nat} {S : TS} {P : TP} {N : TN} (h : CI k ns nc nv nt tn ch S P N) : CI_sail ns nv S P := h.2.2.2.2.1
theorem CI.how {k ns nc nv nt tn : Nat} {ch : Nat → Nat → List Nat} {S : TS} {P : TP} {N : TN} (h : CI k ns nc nv nt tn ch S P N) : CI_how nv S P := h.2.2.2.2.2.1
theorem CI.one {k ns nc nv nt tn : Nat} {ch : Nat → Nat → List Nat} {S : TS} {P : TP} {N : TN} (h : CI k ns nc nv nt tn ch S P N) : CI_one nv S P := h.2.2.2.2.2.2.1
theorem CI.ramp {k ns nc nv nt tn : Nat} {ch : Nat → Nat → List Nat} {S : TS} {P : TP} {N : TN} (h : CI k ns nc nv nt tn ch S P N) : CI_ramp nv nt S P := h.2.2.2.2.2.2.2.1
theorem CI.tick {k ns nc nv nt tn : Nat} {ch : Nat → Nat → List Nat} {S : TS} {P : TP} {N : TN} (h : CI k ns nc nv nt tn ch S P N) : CI_tick nv nt S P := h.2.2.2.2.2.2.2.2.1
theorem CI.ab {k ns nc nv nt tn : Nat} {ch : Nat → Nat → List Nat} {S : TS} {P : TP} {N : TN} (h : CI k ns nc nv nt tn ch S P N) : CI_ab nt S P := h.2.2.2.2.2.2.2.2.2.1
theorem CI.cb {k ns nc nv nt tn : Nat} {ch : Nat → Nat → List Nat} {S : TS} {P : TP} {N : TN} (h : CI k ns nc nv nt tn ch S P N) : CI_cb nc nt S P := h.2.2.2.2.2.2.2.2.2.2.1
theorem CI.tk {k ns nc nv nt tn : Nat} {ch : Nat → Nat → List Nat} {S : TS} {P : TP} {N : TN} (h : CI k ns nc nv nt tn ch S P N) : CI_tk nc nt S := h.2.2.2.2.2.2.2.2.2.2.2.1
theorem CI.uq {k ns nc nv nt tn : Nat} {ch : Nat → Nat → List Nat} {S : TS} {P : TP} {N : TN} (h : CI k ns nc nv nt tn ch S P N) : CI_uq nt S := h.2.2.2.2.2.2.2.2.2.2.2.2.1
theorem CI.std {k ns nc nv nt tn : Nat} {ch : Nat → Nat → List Nat} {S : TS} {P : TP} {N : TN} (h : CI k ns nc nv nt tn ch S P N) : CI_std ns nt S P := h.2.2.2.2.2.2.2.2.2.2.2.2.2.1
theorem CI.turn {k ns nc nv nt tn : Nat} {ch : Nat → Nat → List Nat} {S : TS} {P : TP} {N : TN} (h : CI k ns nc nv nt tn ch S P N) : CI_turn k tn S := h.2.2.2.2.2.2.2.2.2.2.2.2.2.2.1
theorem CI.brd {k ns nc nv nt tn : Nat} {ch : Nat → Nat → List Nat} {S : TS} {P : TP} {N : TN} (h : CI k ns nc nv nt tn ch S P N) : CI_brd nt tn S := h.2.2.2.2.2.2.2.2.2.2.2.2.2.2.2.1
theorem CI.lnk {k ns nc nv nt tn : Nat} {ch : Nat → Nat → List Nat} {S : TS} {P : TP} {N : TN} (h : CI k ns nc nv nt tn ch S P N) : CI_lnk ns ch S P := h.2.2.2.2.2.2.2.2.2.2.2.2.2.2.2.2.1
theorem CI.mem {k ns nc nv nt tn : Nat} {ch : Nat → Nat → List Nat} {S : TS} {P : TP} {N : TN} (h : CI k ns nc nv nt tn ch S P N) : CI_mem ns nt ch S P := h.2.2.2.2.2.2.2.2.2.2.2.2.2.2.2.2.2.1
theorem CI.dl {k ns nc nv nt tn : Nat} {ch : Nat → Nat → List Nat} {S : TS} {P : TP} {N : TN} (h : CI k ns nc nv nt tn ch S P N) : CI_dl nt S P := h.2.2.2.2.2.2.2.2.2.2.2.2.2.2.2.2.2.2.1
theorem CI.ctg {k ns nc nv nt tn : Nat} {ch : Nat → Nat → List Nat} {S : TS} {P : TP} {N : TN} (h : CI k ns nc nv nt tn ch S P N) : CI_ctg ns ch S := h.2.2.2.2.2.2.2.2.2.2.2.2.2.2.2.2.2.2.2
def MI_cnt (ns : Nat) (nc : Nat) (nv : Nat) (nt : Nat) (M : TS) : Prop := M 620 0 = nI ns ∧ M 621 0 = nI nc ∧ M 622 0 = nI nv ∧ M 623 0 = nI nt
def MI_ship (ns : Nat) (S : TS) (M : TS) : Prop := ∀ i, i < ns → M 2000 i = S 301 i ∧ M 2100 i = S 302 i ∧ M 2200 i = S 303 i ∧ M 2300 i = S 304 i
def MI_cab (nc : Nat) (S : TS) (P : TP) (M : TS) : Prop := ∀ c, c < nc → M 2400 c = nI (cs P c) ∧ M 2500 c = S 101 c
def MI_sail (nv : Nat) (S : TS) (P : TP) (M : TS) : Prop := ∀ s, s < nv → M 2600 s = nI (vs P s) ∧ M 2700 s = S 202 s ∧ M 2800 s = S 203 s
def MI_how (nv : Nat) (S : TS) (M : TS) : Prop := ∀ s, s < nv → M 2900 s = S 204 s ∧ M 3000 s = S 205 s ∧ M 3100 s = S 206 s
def MI_off (nv : Nat) (S : TS) (M : TS) : Prop := ∀ s, s < nv → S 204 s = 0 ∨ S 204 s = 1 → M 3400 s = (if S 206 s = 0 then 1 else 0)
def MI_ramp (nv : Nat) (S : TS) (P : TP) (M : TS) : Prop := ∀ s, s < nv → M 3200 s = oI (P 207 s 0) ∧ (¬ P 207 s 0 = none → M 3300 s = (if S 208 s = 0 then 1 else 0))
def MI_tick (nt : Nat) (S : TS) (P : TP) (M : TS) : Prop := ∀ t q, t < nt → q < 13 → M 3500 (13 * t + q) = tS S P q t
def MI_turn (tn : Nat) (bn : Nat) (M : TS) : Prop := M 624 0 = nI tn ∧ M 625 0 = nI bn ∧ bn ≤ tn
def MI_brd (nt : Nat) (bn : Nat) (S : TS) (M : TS) : Prop := (∀ t, t < nt → S 406 t = 3 → ∃ y, y < bn ∧ M 3600 t = nI y) ∧ (∀ t t', t < nt → t' < nt → S 406 t = 3 → S 406 t' = 3 → (S 414 t < S 414 t' ↔ M 3600 t < M 3600 t'))
def MI_log (S : TS) (M : TS) : Prop := ∀ i, i < 3000 → M 3700 i = S 1100 i ∧ M 3800 i = S 1200 i ∧ M 3900 i = S 1300 i
def MI_new (nv : Nat) (M : TS) : Prop := (∀ s, nv ≤ s → M 2900 s = 0 ∧ M 3000 s = 0 ∧ M 3300 s = 0 ∧ M 3400 s = 0)
def MI (ns nc nv nt tn bn : Nat) (S : TS) (P : TP) (M : TS) : Prop := MI_cnt ns nc nv nt M ∧ MI_ship ns S M ∧ MI_cab nc S P M ∧ MI_sail nv S P M ∧ MI_how nv S M ∧ MI_off nv S M ∧ MI_ramp nv S P M ∧ MI_tick nt S P M ∧ MI_turn tn bn M ∧ MI_brd nt bn S M ∧ MI_log S M ∧ MI_new nv M
theorem MI.cnt {ns nc nv nt tn bn : Nat} {S : TS} {P : TP} {M : TS} (h : MI ns nc nv nt tn bn S P M) : MI_cnt ns nc nv nt M := h.1
theorem MI.ship {ns nc nv nt tn bn : Nat} {S : TS} {P : TP} {M : TS} (h : MI ns nc nv nt tn bn S P M) : MI_ship ns S M := h.2.1
theorem MI.cab {ns nc nv nt tn bn : Nat} {S : TS} {P : TP} {M : TS} (h : MI ns nc nv nt tn bn S P M) : MI_cab nc S P M := h.2.2.1
theorem MI.sail {ns nc nv nt tn bn : Nat} {S : TS} {P : TP} {M : TS} (h : MI ns nc nv nt tn bn S P M) : MI_sail nv S P M := h.2.2.2.1
theorem MI.how {ns nc nv nt tn bn : Nat} {S : TS} {P : TP} {M : TS} (h : MI ns nc nv nt tn bn S P M) : MI_how nv S M := h.2.2.2.2.1
theorem MI.off {ns nc nv nt tn bn : Nat} {S : TS} {P : TP} {M : TS} (h : MI ns nc nv nt tn bn S P M) : MI_off nv S M := h.2.2.2.2.2.1
theorem MI.ramp {ns nc nv nt tn bn : Nat} {S : TS} {P : TP} {M : TS} (h : MI ns nc nv nt tn bn S P M) : MI_ramp nv S P M := h.2.2.2.2.2.2.1
theorem MI.tick {ns nc nv nt tn bn : Nat} {S : TS} {P : TP} {M : TS} (h : MI ns nc nv nt tn bn S P M) : MI_tick nt S P M := h.2.2.2.2.2.2.2.1
theorem MI.turn {ns nc nv nt tn bn : Nat} {S : TS} {P : TP} {M : TS} (h : MI ns nc nv nt tn bn S P M) : MI_turn tn bn M := h.2.2.2.2.2.2.2.2.1
theorem MI.brd {ns nc nv nt tn bn : Nat} {S : TS} {P : TP} {M : TS} (h : MI ns nc nv nt tn bn S P M) : MI_brd nt bn S M := h.2.2.2.2.2.2.2.2.2.1
theorem MI.log {ns nc nv nt tn bn : Nat} {S : TS} {P : TP} {M : TS} (h : MI ns nc nv nt tn bn S P M) : MI_log S M := h.2.2.2.2.2.2.2.2.2.2.1
theorem MI.new {ns nc nv nt tn bn : Nat} {S : TS} {P : TP} {M : TS} (h : MI ns nc nv nt tn bn S P M) : MI_new nv M := h.2.2.2.2.2.2.2.2.2.2.2
def Rec (nv nt : Nat) (S : TS) (P : TP) : Prop := ∀ s, s < nv → S 204 s = 1 → S 206 s = 0 → ∃ t, t < nt ∧ sl P t = s ∧ S 406 t ≤ 4
def Inv (k : Nat) (S : TS) (P : TP) (N : TN) (M : TS) : Prop := ∃ (ns nc nv nt tn bn : Nat) (ch : Nat → Nat → List Nat), CI k ns nc nv nt tn ch S P N ∧ MI ns nc nv nt tn bn S P M ∧ Rec nv nt S P
theorem CI.up_k {k ns nc nv nt tn : Nat} {ch : Nat → Nat → List Nat} {S : TS} {P : TP} {N : TN} (h : CI k ns nc nv nt tn ch S P N) : CI (k + 1) ns nc nv nt tn ch S P N := by
  obtain ⟨h0, h1, h2, h3, h4, h5, h6, h7, h8, h9, h10, h11, h12, h13, h14, h15, h16, h17, h18, h19⟩ := h
  exact ⟨h0, h1, h2, h3, h4, h5, h6, h7, h8, h9, h10, h11, h12, h13, ⟨h14.1, by have := h14.2; omega⟩, h15, h16, h17, h18, h19⟩
theorem Inv_up (k : Nat) (S : TS) (P : TP) (N : TN) (M : TS) (h : Inv k S P N M) : Inv (k + 1) S P N M := by
  obtain ⟨ns, nc, nv, nt, tn, bn, ch, hC, hM, hR⟩ := h
  exact ⟨ns, nc, nv, nt, tn, bn, ch, hC.up_k, hM, hR⟩
theorem Inv_0 : Inv 0 S0 P0 N0 S0 := by
  have v : ∀ {n : Nat} {p : Prop}, n < 0 → p := fun h => absurd h (Nat.not_lt_zero _)
  refine ⟨0, 0, 0, 0, 0, 0, fun _ _ => [], ⟨⟨⟨rfl, rfl, rfl, rfl⟩, ⟨by decide, by decide, by decide, by decide⟩, ⟨by decide, by decide, by decide, by decide, by decide⟩⟩, fun _ h => v h, fun _ h => v h, fun _ h => v h, fun _ h => v h, fun _ h => v h, fun _ _ h => v h, fun _ _ h => v h, fun _ h => v h, fun _ h => v h, fun _ h => v h, fun _ h => v h, fun _ _ h => v h, fun _ h => v h, ⟨rfl, Nat.zero_le _⟩, ⟨fun _ h => v h, fun _ _ h => v h⟩, fun _ _ h => v h, fun _ _ _ h => v h, fun _ h => v h, fun _ _ h => v h⟩, ⟨⟨rfl, rfl, rfl, rfl⟩, fun _ h => v h, fun _ h => v h, fun _ h => v h, fun _ h => v h, fun _ h => v h, fun _ h => v h, fun _ _ h => v h, ⟨rfl, rfl, Nat.le_refl _⟩, ⟨fun _ h => v h, fun _ _ h => v h⟩, fun _ _ => ⟨rfl, rfl, rfl⟩, fun _ _ => ⟨rfl, rfl, rfl, rfl⟩⟩, fun _ h => v h⟩
