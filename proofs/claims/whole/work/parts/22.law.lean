def B_ship (Inv : Nat → TS → TP → TN → TS → Prop) : Prop := ∀ (k : Nat) (S : TS) (P : TP) (N : TN) (M : TS) (a1 a2 a3 a4 : Int32), k < 512 → Inv k S P N M → (a4 = 0 ∨ a4 = 1) → ∃ (v : Int32) (S' : TS) (P' : TP) (N' : TN) (M' : TS), f5_ship S P N a1 a2 a3 a4 = some (v, S', P', N') ∧ f6_ship M a1 a2 a3 a4 = some (v, M') ∧ Inv (k + 1) S' P' N' M'
def B_cabin (Inv : Nat → TS → TP → TN → TS → Prop) : Prop := ∀ (k : Nat) (S : TS) (P : TP) (N : TN) (M : TS) (a1 a2 : Int32), k < 512 → Inv k S P N M → ∃ (v : Int32) (S' : TS) (P' : TP) (N' : TN) (M' : TS), f5_cabin S P N a1 a2 = some (v, S', P', N') ∧ f6_cabin M a1 a2 = some (v, M') ∧ Inv (k + 1) S' P' N' M'
def B_sailing (Inv : Nat → TS → TP → TN → TS → Prop) : Prop := ∀ (k : Nat) (S : TS) (P : TP) (N : TN) (M : TS) (a1 a2 a3 : Int32), k < 512 → Inv k S P N M → ∃ (v : Int32) (S' : TS) (P' : TP) (N' : TN) (M' : TS), f5_sailing S P N a1 a2 a3 = some (v, S', P', N') ∧ f6_sailing M a1 a2 a3 = some (v, M') ∧ Inv (k + 1) S' P' N' M'
def B_book (Inv : Nat → TS → TP → TN → TS → Prop) : Prop := ∀ (k : Nat) (S : TS) (P : TP) (N : TN) (M : TS) (a1 a2 a3 a4 : Int32), k < 512 → Inv k S P N M → ∃ (v : Int32) (S' : TS) (P' : TP) (N' : TN) (M' : TS), f5_book S P N a1 a2 a3 a4 = some (v, S', P', N') ∧ f6_book M a1 a2 a3 a4 = some (v, M') ∧ Inv (k + 1) S' P' N' M'
def B_arrive (Inv : Nat → TS → TP → TN → TS → Prop) : Prop := ∀ (k : Nat) (S : TS) (P : TP) (N : TN) (M : TS) (a1 a2 : Int32), k < 512 → Inv k S P N M → ∃ (v : Int32) (S' : TS) (P' : TP) (M' : TS), f5_arrive S P a1 a2 = some (v, S', P') ∧ f6_arrive M a1 a2 = some (v, M') ∧ Inv (k + 1) S' P' N M'
def B_open (Inv : Nat → TS → TP → TN → TS → Prop) : Prop := ∀ (k : Nat) (S : TS) (P : TP) (N : TN) (M : TS) (a1 : Int32), k < 512 → Inv k S P N M → ∃ (v : Int32) (S' : TS) (P' : TP) (M' : TS), f5_open S P a1 = some (v, S', P') ∧ f6_open M a1 = some (v, M') ∧ Inv (k + 1) S' P' N M'
def B_recall (Inv : Nat → TS → TP → TN → TS → Prop) : Prop := ∀ (k : Nat) (S : TS) (P : TP) (N : TN) (M : TS) (a1 a2 : Int32), k < 512 → Inv k S P N M → ∃ (v : Int32) (S' : TS) (P' : TP) (M' : TS), f5_recall S P a1 a2 = some (v, S', P') ∧ f6_recall M a1 a2 = some (v, M') ∧ Inv (k + 1) S' P' N M'
def B_settle (Inv : Nat → TS → TP → TN → TS → Prop) : Prop := ∀ (k : Nat) (S : TS) (P : TP) (N : TN) (M : TS) (a1 : Int32), k < 512 → Inv k S P N M → ∃ (v : Int32) (S' : TS) (P' : TP) (M' : TS), f5_settle S P a1 = some (v, S', P') ∧ f6_settle M a1 = some (v, M') ∧ Inv (k + 1) S' P' N M'
def B_depart (Inv : Nat → TS → TP → TN → TS → Prop) : Prop := ∀ (k : Nat) (S : TS) (P : TP) (N : TN) (M : TS) (a1 : Int32), k < 512 → Inv k S P N M → ∃ (v : Int32) (S' : TS) (P' : TP) (M' : TS), f5_depart S P a1 = some (v, S', P') ∧ f6_depart M a1 = some (v, M') ∧ Inv (k + 1) S' P' N M'
def B_off (Inv : Nat → TS → TP → TN → TS → Prop) : Prop := ∀ (k : Nat) (S : TS) (P : TP) (N : TN) (M : TS) (a1 : Int32), k < 512 → Inv k S P N M → ∃ (v : Int32) (S' : TS) (P' : TP) (M' : TS), f5_off S P a1 = some (v, S', P') ∧ f6_off M a1 = some (v, M') ∧ Inv (k + 1) S' P' N M'
def B_shipOf (Inv : Nat → TS → TP → TN → TS → Prop) : Prop := ∀ (k : Nat) (S : TS) (P : TP) (N : TN) (M : TS) (a1 a2 : Int32), k < 512 → Inv k S P N M → ∃ (v : Int32), f5_shipOf S P a1 a2 = some v ∧ f6_shipOf M a1 a2 = some v ∧ Inv (k + 1) S P N M
def B_sailingOf (Inv : Nat → TS → TP → TN → TS → Prop) : Prop := ∀ (k : Nat) (S : TS) (P : TP) (N : TN) (M : TS) (a1 a2 : Int32), k < 512 → Inv k S P N M → ∃ (v : Int32), f5_sailingOf S P a1 a2 = some v ∧ f6_sailingOf M a1 a2 = some v ∧ Inv (k + 1) S P N M
def B_ticketOf (Inv : Nat → TS → TP → TN → TS → Prop) : Prop := ∀ (k : Nat) (S : TS) (P : TP) (N : TN) (M : TS) (a1 a2 : Int32), k < 512 → Inv k S P N M → ∃ (v : Int32), f5_ticketOf S P a1 a2 = some v ∧ f6_ticketOf M a1 a2 = some v ∧ Inv (k + 1) S P N M
def B_at (Inv : Nat → TS → TP → TN → TS → Prop) : Prop := ∀ (k : Nat) (S : TS) (P : TP) (N : TN) (M : TS) (a1 a2 a3 a4 : Int32), k < 512 → Inv k S P N M → ∃ (v : Int32), f5_at S P a1 a2 a3 a4 = some v ∧ f6_at M a1 a2 a3 a4 = some v ∧ Inv (k + 1) S P N M
def B_lane (Inv : Nat → TS → TP → TN → TS → Prop) : Prop := ∀ (k : Nat) (S : TS) (P : TP) (N : TN) (M : TS) (a1 a2 a3 a4 : Int32), k < 512 → Inv k S P N M → ∃ (v : Int32) (M' : TS), f5_lane S P a1 a2 a3 a4 = some v ∧ f6_lane M a1 a2 a3 a4 = some (v, M') ∧ Inv (k + 1) S P N M'
def B_log (Inv : Nat → TS → TP → TN → TS → Prop) : Prop := ∀ (k : Nat) (S : TS) (P : TP) (N : TN) (M : TS) (a1 a2 : Int32), k < 512 → Inv k S P N M → ∃ (v : Int32), f5_log S P a1 a2 = some v ∧ f6_log M a1 a2 = some v ∧ Inv (k + 1) S P N M
def B_count (Inv : Nat → TS → TP → TN → TS → Prop) : Prop := ∀ (k : Nat) (S : TS) (P : TP) (N : TN) (M : TS) (a1 : Int32), k < 512 → Inv k S P N M → ∃ (v : Int32), f5_count S P a1 = some v ∧ f6_count M a1 = some v ∧ Inv (k + 1) S P N M
def B_total (Inv : Nat → TS → TP → TN → TS → Prop) : Prop := ∀ (k : Nat) (S : TS) (P : TP) (N : TN) (M : TS) (a1 a2 : Int32), k < 512 → Inv k S P N M → ∃ (v : Int32), f5_total S P a1 a2 = some v ∧ f6_total M a1 a2 = some v ∧ Inv (k + 1) S P N M
def B_kept (Inv : Nat → TS → TP → TN → TS → Prop) : Prop := ∀ (k : Nat) (S : TS) (P : TP) (N : TN) (M : TS), k < 512 → Inv k S P N M → ∃ (v : Int64), f5_kept S P = some v ∧ f6_kept M = some v ∧ Inv (k + 1) S P N M
def B_audit (Inv : Nat → TS → TP → TN → TS → Prop) : Prop := ∀ (k : Nat) (S : TS) (P : TP) (N : TN) (M : TS) (a1 a2 a3 : Int32), k < 512 → Inv k S P N M → ∃ (v : Int32) (S' : TS) (P' : TP) (N' : TN) (M' : TS), f5_audit S P N a1 a2 a3 = some (v, S', P', N') ∧ f6_audit M a1 a2 a3 = some (v, M') ∧ Inv (k + 1) S' P' N' M'
def BAll (Inv : Nat → TS → TP → TN → TS → Prop) : Prop := (∀ k S P N M, Inv k S P N M → Inv (k + 1) S P N M) ∧ B_ship Inv ∧ B_cabin Inv ∧ B_sailing Inv ∧ B_book Inv ∧ B_arrive Inv ∧ B_open Inv ∧ B_recall Inv ∧ B_settle Inv ∧ B_depart Inv ∧ B_off Inv ∧ B_shipOf Inv ∧ B_sailingOf Inv ∧ B_ticketOf Inv ∧ B_at Inv ∧ B_lane Inv ∧ B_log Inv ∧ B_count Inv ∧ B_total Inv ∧ B_kept Inv ∧ B_audit Inv
theorem lg_self (x : Int64) : lg_cmp x x = 0 := by simp [lg_cmp]
theorem law_cond {L k : Nat} (hL : L ≤ 2560) (h5 : 5 * k ≤ L) : nI L - 5 < nI (5 * k) ↔ L < 5 * k + 5 := by
  rw [Int32.lt_iff_toInt_lt, show (nI L - 5) = nI L - nI 5 from rfl, pk_sub_toInt (by omega) (by decide), nI_toInt (by omega)]
  omega
theorem law_ix {L k c : Nat} {d : Int32} (hd : d = nI c) (hL : L ≤ 2560) (h : 5 * k + c < L) : vp_in (nI (5 * k) + d) L := by
  rw [hd, nI_add]; exact vp_in_nI h (by omega)
set_option maxHeartbeats 8000000 in
set_option maxRecDepth 100000 in
theorem law_loop {p : Program} {e : Env} {s : State} {m : MethodId} {below : List Frame} {meth : Method} {c : Code} (l : Launch) {b L : Nat} {xs : Nat → Int32} (hL : L ≤ 2560) (hx : p.tables.exec = Jvm.exec) (hb : c.code = cL_law) (hr : meth.sig.returnType = ret) (hml : c.maxLocals = 4) (hown : s.vm.findClass RL = some m.cls) (hts : ∀ w ∈ wsL_law, w.before #[Value.ref b] s = true) (hX : va_X b L xs s s.heap) (hbl : b < s.heap.size) (hlk : meth.locks = false) {Inv : Nat → TS → TP → TN → TS → Prop} (hB : BAll Inv) {D : va_G} {cA : Nat → ClassId} (hK : va_K D vwCl (tysW cA) s) (hN : NW s) :
    ∀ (n k : Nat) (S : TS) (P : TP) (N : TN) (M : TS) (ad : Nat → Nat → Nat) (H : Heap) (locs : List Loc) (ls : Array Slot), L + 1 ≤ 5 * k + n → 5 * k ≤ L → Inv k S P N M → Wd D cA s.heap.size ad N S P M H → va_S (fun q => s.heap.size ≤ q) s.heap H locs → lv_has ls 4 [(0, .ref b), (1, .ref (ad 5 0)), (2, .ref (ad 6 0)), (3, .int (nI (5 * k)))] → W p l e room_1 s m #[Value.ref b] below meth c H locs (30 + 2 * k) (27063 + 32 * k) (lw_Z below #[Value.ref b] s) (F0 m 18 ls []) := by
  obtain ⟨hI0, hB_ship, hB_cabin, hB_sailing, hB_book, hB_arrive, hB_open, hB_recall, hB_settle, hB_depart, hB_off, hB_shipOf, hB_sailingOf, hB_ticketOf, hB_at, hB_lane, hB_log, hB_count, hB_total, hB_kept, hB_audit⟩ := hB
  have hbA : ¬ (fun q : Nat => s.heap.size ≤ q) b := Nat.not_le.mpr hbl
  intro n
  induction n with
  | zero => intro k S P N M ad H locs ls h1 h2; omega
  | succ n ih =>
    intro k S P N M ad H locs ls h1 h2 hI hW hS hl
    refine lv_iload_n hx hb dL_law_18 rfl (lv_at hl 3 rfl) ?_
    refine lv_aload_n hx hb dL_law_19 rfl (lv_at hl 0 rfl) ?_
    refine va_slen hx hb hX hbl hbA hS dL_law_20 ?_
    refine lv_iconst (v := 5) hx hb dL_law_21 (by decide) ?_
    refine lv_isub hx hb dL_law_22 ?_
    refine lv_icmp_gt (tgt := 841) hx hb dL_law_23 (by decide) (fun hc => ?_) (fun hc => ?_)
    · refine lv_iconst (v := 1) hx hb dL_law_841 (by decide) ?_
      refine va_forget hS.2.2 ?_
      refine W.widen (k := 600000) (n := 7302249) (by omega) (by omega) ?_
      exact lw_ret hx hb hr hlk dL_law_842
    · have hlt : 5 * k + 5 ≤ L := Nat.not_lt.mp fun q => hc ((law_cond hL h2).mpr q)
      clear hc
      have hk512 : k < 512 := by omega
      have next : ∀ (S : TS) (P : TP) (N : TN) (M : TS) (ad : Nat → Nat → Nat) (H : Heap) (locs : List Loc) (ls : Array Slot) (cells slots : Nat), cells ≤ 30 + 2 * (k + 1) → slots ≤ 27063 + 32 * (k + 1) → Inv (k + 1) S P N M → Wd D cA s.heap.size ad N S P M H → va_S (fun q => s.heap.size ≤ q) s.heap H locs → lv_has ls 4 [(0, .ref b), (1, .ref (ad 5 0)), (2, .ref (ad 6 0)), (3, .int (nI (5 * k)))] → W p l e room_1 s m #[Value.ref b] below meth c H locs cells slots (lw_Z below #[Value.ref b] s) (F0 m 835 ls []) := by
        intro S P N M ad H locs ls cells slots hc1 hc2 hI hW hS hl
        refine lv_iinc (v := nI (5 * (k + 1))) (lv' := [(3, .int (nI (5 * (k + 1)))), (0, .ref b), (1, .ref (ad 5 0)), (2, .ref (ad 6 0))]) hx hb dL_law_835 hl (k := 3) rfl (nI_add (5 * k) 5) (by decide) rfl (fun ls hl => ?_)
        refine lv_goto (tgt := 18) hx hb dL_law_838 (by decide) ?_
        refine W.widen (k := 30 + 2 * (k + 1)) (n := 27063 + 32 * (k + 1)) hc1 hc2 ?_
        exact ih (k + 1) S P N M ad H locs ls (by omega) (by omega) hI hW hS (lv_sub hl [1, 2, 3, 0] rfl)
      refine lv_aload_n hx hb dL_law_26 rfl (lv_at hl 0 rfl) ?_
      refine lv_iload_n hx hb dL_law_27 rfl (lv_at hl 3 rfl) ?_
      refine va_sld hx hb hX hbl hbA hS (vp_in_nI (by omega) (by omega)) dL_law_28 ?_
      refine lv_bipush (v := 31) hx hb dL_law_29 (by decide) ?_
      refine lv_iand hx hb dL_law_31 ?_
      generalize xs (nI (5 * k)).toNatClampNeg &&& 31 = x
      by_cases hn0 : x = 0
      · refine lv_tableIn (off := 96) (tgt := 128) hx hb dL_law_32 (by rw [hn0]; decide) (by rw [hn0]; decide) (by rw [hn0]; rfl) (by decide) ?_
        by_cases hz : xs (nI (5 * k) + 4).toNatClampNeg = 0
        · obtain ⟨v, S', P', N', M', h5f, h6f, hI⟩ := hB_ship k S P N M (xs (nI (5 * k) + 1).toNatClampNeg) (xs (nI (5 * k) + 2).toNatClampNeg) (xs (nI (5 * k) + 3).toNatClampNeg) 0 hk512 hI (Or.inl rfl) 
          refine lv_aload_n hx hb dL_law_128 rfl (lv_at hl 1 rfl) ?_
          refine lv_aload_n hx hb dL_law_129 rfl (lv_at hl 0 rfl) ?_
          refine lv_iload_n hx hb dL_law_130 rfl (lv_at hl 3 rfl) ?_
          refine lv_iconst (v := 1) hx hb dL_law_131 (by decide) ?_
          refine lv_iadd hx hb dL_law_132 ?_
          refine va_sld hx hb hX hbl hbA hS (law_ix (c := 1) rfl hL (by omega)) dL_law_133 ?_
          refine lv_aload_n hx hb dL_law_134 rfl (lv_at hl 0 rfl) ?_
          refine lv_iload_n hx hb dL_law_135 rfl (lv_at hl 3 rfl) ?_
          refine lv_iconst (v := 2) hx hb dL_law_136 (by decide) ?_
          refine lv_iadd hx hb dL_law_137 ?_
          refine va_sld hx hb hX hbl hbA hS (law_ix (c := 2) rfl hL (by omega)) dL_law_138 ?_
          refine lv_aload_n hx hb dL_law_139 rfl (lv_at hl 0 rfl) ?_
          refine lv_iload_n hx hb dL_law_140 rfl (lv_at hl 3 rfl) ?_
          refine lv_iconst (v := 3) hx hb dL_law_141 (by decide) ?_
          refine lv_iadd hx hb dL_law_142 ?_
          refine va_sld hx hb hX hbl hbA hS (law_ix (c := 3) rfl hL (by omega)) dL_law_143 ?_
          refine lv_aload_n hx hb dL_law_144 rfl (lv_at hl 0 rfl) ?_
          refine lv_iload_n hx hb dL_law_145 rfl (lv_at hl 3 rfl) ?_
          refine lv_iconst (v := 4) hx hb dL_law_146 (by decide) ?_
          refine lv_iadd hx hb dL_law_147 ?_
          refine va_sld hx hb hX hbl hbA hS (law_ix (c := 4) rfl hL (by omega)) dL_law_148 ?_
          refine lv_if_eq (tgt := 156) hx hb dL_law_149 (by decide) (fun _ => ?_) (fun h => absurd hz h)
          refine lv_iconst (v := 0) hx hb dL_law_156 (by decide) ?_
          have h0fx := hW
          refine k_ia (va_runV (As := [.int (xs (nI (5 * k) + 1).toNatClampNeg), .int (xs (nI (5 * k) + 2).toNatClampNeg), .int (xs (nI (5 * k) + 3).toNatClampNeg), .int 0]) (rest := []) ⟨hx, hb, hml, hown, hts⟩ (c5_ship l (xs (nI (5 * k) + 1).toNatClampNeg) (xs (nI (5 * k) + 2).toNatClampNeg) (xs (nI (5 * k) + 3).toNatClampNeg) 0 h5f) (cwV 4 hts gL_law_X5_ship rfl rfl rfl (by decide +kernel) ⟨(Nat.le_of_ble_eq_true rfl), (Nat.le_of_ble_eq_true rfl)⟩) (k_preV hW hK hN (hW.fx 5 rfl) (EE_5 cA ad S P M 0) rfl) rfl rfl hl.1 rfl (lv_room (Nat.le_of_ble_eq_true rfl)) dL_law_157 ⟨by show _ ≤ 600000; omega, by show _ ≤ 7302249; omega⟩) hS (fun H locs ad' hga hma hW hS => ?_)
          have ea5 : ad 5 0 = ad' 5 0 := (hga _ _ (h0fx.fx 5 rfl)).symm
          have ea6 : ad 6 0 = ad' 6 0 := (hga _ _ (h0fx.fx 6 rfl)).symm
          rw [ea5, ea6] at hl
          refine lv_aload_n hx hb dL_law_160 rfl (lv_at hl 2 rfl) ?_
          refine lv_aload_n hx hb dL_law_161 rfl (lv_at hl 0 rfl) ?_
          refine lv_iload_n hx hb dL_law_162 rfl (lv_at hl 3 rfl) ?_
          refine lv_iconst (v := 1) hx hb dL_law_163 (by decide) ?_
          refine lv_iadd hx hb dL_law_164 ?_
          refine va_sld hx hb hX hbl hbA hS (law_ix (c := 1) rfl hL (by omega)) dL_law_165 ?_
          refine lv_aload_n hx hb dL_law_166 rfl (lv_at hl 0 rfl) ?_
          refine lv_iload_n hx hb dL_law_167 rfl (lv_at hl 3 rfl) ?_
          refine lv_iconst (v := 2) hx hb dL_law_168 (by decide) ?_
          refine lv_iadd hx hb dL_law_169 ?_
          refine va_sld hx hb hX hbl hbA hS (law_ix (c := 2) rfl hL (by omega)) dL_law_170 ?_
          refine lv_aload_n hx hb dL_law_171 rfl (lv_at hl 0 rfl) ?_
          refine lv_iload_n hx hb dL_law_172 rfl (lv_at hl 3 rfl) ?_
          refine lv_iconst (v := 3) hx hb dL_law_173 (by decide) ?_
          refine lv_iadd hx hb dL_law_174 ?_
          refine va_sld hx hb hX hbl hbA hS (law_ix (c := 3) rfl hL (by omega)) dL_law_175 ?_
          refine lv_aload_n hx hb dL_law_176 rfl (lv_at hl 0 rfl) ?_
          refine lv_iload_n hx hb dL_law_177 rfl (lv_at hl 3 rfl) ?_
          refine lv_iconst (v := 4) hx hb dL_law_178 (by decide) ?_
          refine lv_iadd hx hb dL_law_179 ?_
          refine va_sld hx hb hX hbl hbA hS (law_ix (c := 4) rfl hL (by omega)) dL_law_180 ?_
          refine lv_if_eq (tgt := 188) hx hb dL_law_181 (by decide) (fun _ => ?_) (fun h => absurd hz h)
          refine lv_iconst (v := 0) hx hb dL_law_188 (by decide) ?_
          refine k_i (va_runV (As := [.int (xs (nI (5 * k) + 1).toNatClampNeg), .int (xs (nI (5 * k) + 2).toNatClampNeg), .int (xs (nI (5 * k) + 3).toNatClampNeg), .int 0]) (rest := [.int v]) ⟨hx, hb, hml, hown, hts⟩ (c6_ship l (xs (nI (5 * k) + 1).toNatClampNeg) (xs (nI (5 * k) + 2).toNatClampNeg) (xs (nI (5 * k) + 3).toNatClampNeg) 0 h6f) (cwV 4 hts gL_law_X6_ship rfl rfl rfl (by decide +kernel) ⟨(Nat.le_of_ble_eq_true rfl), (Nat.le_of_ble_eq_true rfl)⟩) (k_preV hW hK hN (hW.fx 6 rfl) (EE_6 cA ad' S' P' M 0) rfl) rfl rfl hl.1 rfl (lv_room (Nat.le_of_ble_eq_true rfl)) dL_law_189 ⟨by show _ ≤ 600000; omega, by show _ ≤ 7302249; omega⟩) hS (fun H locs hW hS => ?_)
          refine lv_icmp_eq (tgt := 835) hx hb dL_law_192 (by decide) (fun _ => ?_) (fun h => absurd rfl h)
          exact next S' P' N' M' ad' _ _ _ _ _ (by omega) (by omega) hI hW hS hl
        · obtain ⟨v, S', P', N', M', h5f, h6f, hI⟩ := hB_ship k S P N M (xs (nI (5 * k) + 1).toNatClampNeg) (xs (nI (5 * k) + 2).toNatClampNeg) (xs (nI (5 * k) + 3).toNatClampNeg) 1 hk512 hI (Or.inr rfl) 
          refine lv_aload_n hx hb dL_law_128 rfl (lv_at hl 1 rfl) ?_
          refine lv_aload_n hx hb dL_law_129 rfl (lv_at hl 0 rfl) ?_
          refine lv_iload_n hx hb dL_law_130 rfl (lv_at hl 3 rfl) ?_
          refine lv_iconst (v := 1) hx hb dL_law_131 (by decide) ?_
          refine lv_iadd hx hb dL_law_132 ?_
          refine va_sld hx hb hX hbl hbA hS (law_ix (c := 1) rfl hL (by omega)) dL_law_133 ?_
          refine lv_aload_n hx hb dL_law_134 rfl (lv_at hl 0 rfl) ?_
          refine lv_iload_n hx hb dL_law_135 rfl (lv_at hl 3 rfl) ?_
          refine lv_iconst (v := 2) hx hb dL_law_136 (by decide) ?_
          refine lv_iadd hx hb dL_law_137 ?_
          refine va_sld hx hb hX hbl hbA hS (law_ix (c := 2) rfl hL (by omega)) dL_law_138 ?_
          refine lv_aload_n hx hb dL_law_139 rfl (lv_at hl 0 rfl) ?_
          refine lv_iload_n hx hb dL_law_140 rfl (lv_at hl 3 rfl) ?_
          refine lv_iconst (v := 3) hx hb dL_law_141 (by decide) ?_
          refine lv_iadd hx hb dL_law_142 ?_
          refine va_sld hx hb hX hbl hbA hS (law_ix (c := 3) rfl hL (by omega)) dL_law_143 ?_
          refine lv_aload_n hx hb dL_law_144 rfl (lv_at hl 0 rfl) ?_
          refine lv_iload_n hx hb dL_law_145 rfl (lv_at hl 3 rfl) ?_
          refine lv_iconst (v := 4) hx hb dL_law_146 (by decide) ?_
          refine lv_iadd hx hb dL_law_147 ?_
          refine va_sld hx hb hX hbl hbA hS (law_ix (c := 4) rfl hL (by omega)) dL_law_148 ?_
          refine lv_if_eq (tgt := 156) hx hb dL_law_149 (by decide) (fun h => absurd h hz) (fun _ => ?_)
          refine lv_iconst (v := 1) hx hb dL_law_152 (by decide) ?_
          refine lv_goto (tgt := 157) hx hb dL_law_153 (by decide) ?_
          have h0fx := hW
          refine k_ia (va_runV (As := [.int (xs (nI (5 * k) + 1).toNatClampNeg), .int (xs (nI (5 * k) + 2).toNatClampNeg), .int (xs (nI (5 * k) + 3).toNatClampNeg), .int 1]) (rest := []) ⟨hx, hb, hml, hown, hts⟩ (c5_ship l (xs (nI (5 * k) + 1).toNatClampNeg) (xs (nI (5 * k) + 2).toNatClampNeg) (xs (nI (5 * k) + 3).toNatClampNeg) 1 h5f) (cwV 4 hts gL_law_X5_ship rfl rfl rfl (by decide +kernel) ⟨(Nat.le_of_ble_eq_true rfl), (Nat.le_of_ble_eq_true rfl)⟩) (k_preV hW hK hN (hW.fx 5 rfl) (EE_5 cA ad S P M 0) rfl) rfl rfl hl.1 rfl (lv_room (Nat.le_of_ble_eq_true rfl)) dL_law_157 ⟨by show _ ≤ 600000; omega, by show _ ≤ 7302249; omega⟩) hS (fun H locs ad' hga hma hW hS => ?_)
          have ea5 : ad 5 0 = ad' 5 0 := (hga _ _ (h0fx.fx 5 rfl)).symm
          have ea6 : ad 6 0 = ad' 6 0 := (hga _ _ (h0fx.fx 6 rfl)).symm
          rw [ea5, ea6] at hl
          refine lv_aload_n hx hb dL_law_160 rfl (lv_at hl 2 rfl) ?_
          refine lv_aload_n hx hb dL_law_161 rfl (lv_at hl 0 rfl) ?_
          refine lv_iload_n hx hb dL_law_162 rfl (lv_at hl 3 rfl) ?_
          refine lv_iconst (v := 1) hx hb dL_law_163 (by decide) ?_
          refine lv_iadd hx hb dL_law_164 ?_
          refine va_sld hx hb hX hbl hbA hS (law_ix (c := 1) rfl hL (by omega)) dL_law_165 ?_
          refine lv_aload_n hx hb dL_law_166 rfl (lv_at hl 0 rfl) ?_
          refine lv_iload_n hx hb dL_law_167 rfl (lv_at hl 3 rfl) ?_
          refine lv_iconst (v := 2) hx hb dL_law_168 (by decide) ?_
          refine lv_iadd hx hb dL_law_169 ?_
          refine va_sld hx hb hX hbl hbA hS (law_ix (c := 2) rfl hL (by omega)) dL_law_170 ?_
          refine lv_aload_n hx hb dL_law_171 rfl (lv_at hl 0 rfl) ?_
          refine lv_iload_n hx hb dL_law_172 rfl (lv_at hl 3 rfl) ?_
          refine lv_iconst (v := 3) hx hb dL_law_173 (by decide) ?_
          refine lv_iadd hx hb dL_law_174 ?_
          refine va_sld hx hb hX hbl hbA hS (law_ix (c := 3) rfl hL (by omega)) dL_law_175 ?_
          refine lv_aload_n hx hb dL_law_176 rfl (lv_at hl 0 rfl) ?_
          refine lv_iload_n hx hb dL_law_177 rfl (lv_at hl 3 rfl) ?_
          refine lv_iconst (v := 4) hx hb dL_law_178 (by decide) ?_
          refine lv_iadd hx hb dL_law_179 ?_
          refine va_sld hx hb hX hbl hbA hS (law_ix (c := 4) rfl hL (by omega)) dL_law_180 ?_
          refine lv_if_eq (tgt := 188) hx hb dL_law_181 (by decide) (fun h => absurd h hz) (fun _ => ?_)
          refine lv_iconst (v := 1) hx hb dL_law_184 (by decide) ?_
          refine lv_goto (tgt := 189) hx hb dL_law_185 (by decide) ?_
          refine k_i (va_runV (As := [.int (xs (nI (5 * k) + 1).toNatClampNeg), .int (xs (nI (5 * k) + 2).toNatClampNeg), .int (xs (nI (5 * k) + 3).toNatClampNeg), .int 1]) (rest := [.int v]) ⟨hx, hb, hml, hown, hts⟩ (c6_ship l (xs (nI (5 * k) + 1).toNatClampNeg) (xs (nI (5 * k) + 2).toNatClampNeg) (xs (nI (5 * k) + 3).toNatClampNeg) 1 h6f) (cwV 4 hts gL_law_X6_ship rfl rfl rfl (by decide +kernel) ⟨(Nat.le_of_ble_eq_true rfl), (Nat.le_of_ble_eq_true rfl)⟩) (k_preV hW hK hN (hW.fx 6 rfl) (EE_6 cA ad' S' P' M 0) rfl) rfl rfl hl.1 rfl (lv_room (Nat.le_of_ble_eq_true rfl)) dL_law_189 ⟨by show _ ≤ 600000; omega, by show _ ≤ 7302249; omega⟩) hS (fun H locs hW hS => ?_)
          refine lv_icmp_eq (tgt := 835) hx hb dL_law_192 (by decide) (fun _ => ?_) (fun h => absurd rfl h)
          exact next S' P' N' M' ad' _ _ _ _ _ (by omega) (by omega) hI hW hS hl
      by_cases hn1 : x = 1
      · refine lv_tableIn (off := 165) (tgt := 197) hx hb dL_law_32 (by rw [hn1]; decide) (by rw [hn1]; decide) (by rw [hn1]; rfl) (by decide) ?_
        obtain ⟨v, S', P', N', M', h5f, h6f, hI⟩ := hB_cabin k S P N M (xs (nI (5 * k) + 1).toNatClampNeg) (xs (nI (5 * k) + 2).toNatClampNeg) hk512 hI 
        refine lv_aload_n hx hb dL_law_197 rfl (lv_at hl 1 rfl) ?_
        refine lv_aload_n hx hb dL_law_198 rfl (lv_at hl 0 rfl) ?_
        refine lv_iload_n hx hb dL_law_199 rfl (lv_at hl 3 rfl) ?_
        refine lv_iconst (v := 1) hx hb dL_law_200 (by decide) ?_
        refine lv_iadd hx hb dL_law_201 ?_
        refine va_sld hx hb hX hbl hbA hS (law_ix (c := 1) rfl hL (by omega)) dL_law_202 ?_
        refine lv_aload_n hx hb dL_law_203 rfl (lv_at hl 0 rfl) ?_
        refine lv_iload_n hx hb dL_law_204 rfl (lv_at hl 3 rfl) ?_
        refine lv_iconst (v := 2) hx hb dL_law_205 (by decide) ?_
        refine lv_iadd hx hb dL_law_206 ?_
        refine va_sld hx hb hX hbl hbA hS (law_ix (c := 2) rfl hL (by omega)) dL_law_207 ?_
        have h0fx := hW
        refine k_ia (va_runV (As := [.int (xs (nI (5 * k) + 1).toNatClampNeg), .int (xs (nI (5 * k) + 2).toNatClampNeg)]) (rest := []) ⟨hx, hb, hml, hown, hts⟩ (c5_cabin l (xs (nI (5 * k) + 1).toNatClampNeg) (xs (nI (5 * k) + 2).toNatClampNeg) h5f) (cwV 2 hts gL_law_X5_cabin rfl rfl rfl (by decide +kernel) ⟨(Nat.le_of_ble_eq_true rfl), (Nat.le_of_ble_eq_true rfl)⟩) (k_preV hW hK hN (hW.fx 5 rfl) (EE_5 cA ad S P M 0) rfl) rfl rfl hl.1 rfl (lv_room (Nat.le_of_ble_eq_true rfl)) dL_law_208 ⟨by show _ ≤ 600000; omega, by show _ ≤ 7302249; omega⟩) hS (fun H locs ad' hga hma hW hS => ?_)
        have ea5 : ad 5 0 = ad' 5 0 := (hga _ _ (h0fx.fx 5 rfl)).symm
        have ea6 : ad 6 0 = ad' 6 0 := (hga _ _ (h0fx.fx 6 rfl)).symm
        rw [ea5, ea6] at hl
        refine lv_aload_n hx hb dL_law_211 rfl (lv_at hl 2 rfl) ?_
        refine lv_aload_n hx hb dL_law_212 rfl (lv_at hl 0 rfl) ?_
        refine lv_iload_n hx hb dL_law_213 rfl (lv_at hl 3 rfl) ?_
        refine lv_iconst (v := 1) hx hb dL_law_214 (by decide) ?_
        refine lv_iadd hx hb dL_law_215 ?_
        refine va_sld hx hb hX hbl hbA hS (law_ix (c := 1) rfl hL (by omega)) dL_law_216 ?_
        refine lv_aload_n hx hb dL_law_217 rfl (lv_at hl 0 rfl) ?_
        refine lv_iload_n hx hb dL_law_218 rfl (lv_at hl 3 rfl) ?_
        refine lv_iconst (v := 2) hx hb dL_law_219 (by decide) ?_
        refine lv_iadd hx hb dL_law_220 ?_
        refine va_sld hx hb hX hbl hbA hS (law_ix (c := 2) rfl hL (by omega)) dL_law_221 ?_
        refine k_i (va_runV (As := [.int (xs (nI (5 * k) + 1).toNatClampNeg), .int (xs (nI (5 * k) + 2).toNatClampNeg)]) (rest := [.int v]) ⟨hx, hb, hml, hown, hts⟩ (c6_cabin l (xs (nI (5 * k) + 1).toNatClampNeg) (xs (nI (5 * k) + 2).toNatClampNeg) h6f) (cwV 2 hts gL_law_X6_cabin rfl rfl rfl (by decide +kernel) ⟨(Nat.le_of_ble_eq_true rfl), (Nat.le_of_ble_eq_true rfl)⟩) (k_preV hW hK hN (hW.fx 6 rfl) (EE_6 cA ad' S' P' M 0) rfl) rfl rfl hl.1 rfl (lv_room (Nat.le_of_ble_eq_true rfl)) dL_law_222 ⟨by show _ ≤ 600000; omega, by show _ ≤ 7302249; omega⟩) hS (fun H locs hW hS => ?_)
        refine lv_icmp_eq (tgt := 835) hx hb dL_law_225 (by decide) (fun _ => ?_) (fun h => absurd rfl h)
        exact next S' P' N' M' ad' _ _ _ _ _ (by omega) (by omega) hI hW hS hl
      by_cases hn2 : x = 2
      · refine lv_tableIn (off := 198) (tgt := 230) hx hb dL_law_32 (by rw [hn2]; decide) (by rw [hn2]; decide) (by rw [hn2]; rfl) (by decide) ?_
        obtain ⟨v, S', P', N', M', h5f, h6f, hI⟩ := hB_sailing k S P N M (xs (nI (5 * k) + 1).toNatClampNeg) (xs (nI (5 * k) + 2).toNatClampNeg) (xs (nI (5 * k) + 3).toNatClampNeg) hk512 hI 
        refine lv_aload_n hx hb dL_law_230 rfl (lv_at hl 1 rfl) ?_
        refine lv_aload_n hx hb dL_law_231 rfl (lv_at hl 0 rfl) ?_
        refine lv_iload_n hx hb dL_law_232 rfl (lv_at hl 3 rfl) ?_
        refine lv_iconst (v := 1) hx hb dL_law_233 (by decide) ?_
        refine lv_iadd hx hb dL_law_234 ?_
        refine va_sld hx hb hX hbl hbA hS (law_ix (c := 1) rfl hL (by omega)) dL_law_235 ?_
        refine lv_aload_n hx hb dL_law_236 rfl (lv_at hl 0 rfl) ?_
        refine lv_iload_n hx hb dL_law_237 rfl (lv_at hl 3 rfl) ?_
        refine lv_iconst (v := 2) hx hb dL_law_238 (by decide) ?_
        refine lv_iadd hx hb dL_law_239 ?_
        refine va_sld hx hb hX hbl hbA hS (law_ix (c := 2) rfl hL (by omega)) dL_law_240 ?_
        refine lv_aload_n hx hb dL_law_241 rfl (lv_at hl 0 rfl) ?_
        refine lv_iload_n hx hb dL_law_242 rfl (lv_at hl 3 rfl) ?_
        refine lv_iconst (v := 3) hx hb dL_law_243 (by decide) ?_
        refine lv_iadd hx hb dL_law_244 ?_
        refine va_sld hx hb hX hbl hbA hS (law_ix (c := 3) rfl hL (by omega)) dL_law_245 ?_
        have h0fx := hW
        refine k_ia (va_runV (As := [.int (xs (nI (5 * k) + 1).toNatClampNeg), .int (xs (nI (5 * k) + 2).toNatClampNeg), .int (xs (nI (5 * k) + 3).toNatClampNeg)]) (rest := []) ⟨hx, hb, hml, hown, hts⟩ (c5_sailing l (xs (nI (5 * k) + 1).toNatClampNeg) (xs (nI (5 * k) + 2).toNatClampNeg) (xs (nI (5 * k) + 3).toNatClampNeg) h5f) (cwV 3 hts gL_law_X5_sailing rfl rfl rfl (by decide +kernel) ⟨(Nat.le_of_ble_eq_true rfl), (Nat.le_of_ble_eq_true rfl)⟩) (k_preV hW hK hN (hW.fx 5 rfl) (EE_5 cA ad S P M 0) rfl) rfl rfl hl.1 rfl (lv_room (Nat.le_of_ble_eq_true rfl)) dL_law_246 ⟨by show _ ≤ 600000; omega, by show _ ≤ 7302249; omega⟩) hS (fun H locs ad' hga hma hW hS => ?_)
        have ea5 : ad 5 0 = ad' 5 0 := (hga _ _ (h0fx.fx 5 rfl)).symm
        have ea6 : ad 6 0 = ad' 6 0 := (hga _ _ (h0fx.fx 6 rfl)).symm
        rw [ea5, ea6] at hl
        refine lv_aload_n hx hb dL_law_249 rfl (lv_at hl 2 rfl) ?_
        refine lv_aload_n hx hb dL_law_250 rfl (lv_at hl 0 rfl) ?_
        refine lv_iload_n hx hb dL_law_251 rfl (lv_at hl 3 rfl) ?_
        refine lv_iconst (v := 1) hx hb dL_law_252 (by decide) ?_
        refine lv_iadd hx hb dL_law_253 ?_
        refine va_sld hx hb hX hbl hbA hS (law_ix (c := 1) rfl hL (by omega)) dL_law_254 ?_
        refine lv_aload_n hx hb dL_law_255 rfl (lv_at hl 0 rfl) ?_
        refine lv_iload_n hx hb dL_law_256 rfl (lv_at hl 3 rfl) ?_
        refine lv_iconst (v := 2) hx hb dL_law_257 (by decide) ?_
        refine lv_iadd hx hb dL_law_258 ?_
        refine va_sld hx hb hX hbl hbA hS (law_ix (c := 2) rfl hL (by omega)) dL_law_259 ?_
        refine lv_aload_n hx hb dL_law_260 rfl (lv_at hl 0 rfl) ?_
        refine lv_iload_n hx hb dL_law_261 rfl (lv_at hl 3 rfl) ?_
        refine lv_iconst (v := 3) hx hb dL_law_262 (by decide) ?_
        refine lv_iadd hx hb dL_law_263 ?_
        refine va_sld hx hb hX hbl hbA hS (law_ix (c := 3) rfl hL (by omega)) dL_law_264 ?_
        refine k_i (va_runV (As := [.int (xs (nI (5 * k) + 1).toNatClampNeg), .int (xs (nI (5 * k) + 2).toNatClampNeg), .int (xs (nI (5 * k) + 3).toNatClampNeg)]) (rest := [.int v]) ⟨hx, hb, hml, hown, hts⟩ (c6_sailing l (xs (nI (5 * k) + 1).toNatClampNeg) (xs (nI (5 * k) + 2).toNatClampNeg) (xs (nI (5 * k) + 3).toNatClampNeg) h6f) (cwV 3 hts gL_law_X6_sailing rfl rfl rfl (by decide +kernel) ⟨(Nat.le_of_ble_eq_true rfl), (Nat.le_of_ble_eq_true rfl)⟩) (k_preV hW hK hN (hW.fx 6 rfl) (EE_6 cA ad' S' P' M 0) rfl) rfl rfl hl.1 rfl (lv_room (Nat.le_of_ble_eq_true rfl)) dL_law_265 ⟨by show _ ≤ 600000; omega, by show _ ≤ 7302249; omega⟩) hS (fun H locs hW hS => ?_)
        refine lv_icmp_eq (tgt := 835) hx hb dL_law_268 (by decide) (fun _ => ?_) (fun h => absurd rfl h)
        exact next S' P' N' M' ad' _ _ _ _ _ (by omega) (by omega) hI hW hS hl
      by_cases hn3 : x = 3
      · refine lv_tableIn (off := 241) (tgt := 273) hx hb dL_law_32 (by rw [hn3]; decide) (by rw [hn3]; decide) (by rw [hn3]; rfl) (by decide) ?_
        obtain ⟨v, S', P', N', M', h5f, h6f, hI⟩ := hB_book k S P N M (xs (nI (5 * k) + 1).toNatClampNeg) (xs (nI (5 * k) + 2).toNatClampNeg) (xs (nI (5 * k) + 3).toNatClampNeg) (xs (nI (5 * k) + 4).toNatClampNeg) hk512 hI 
        refine lv_aload_n hx hb dL_law_273 rfl (lv_at hl 1 rfl) ?_
        refine lv_aload_n hx hb dL_law_274 rfl (lv_at hl 0 rfl) ?_
        refine lv_iload_n hx hb dL_law_275 rfl (lv_at hl 3 rfl) ?_
        refine lv_iconst (v := 1) hx hb dL_law_276 (by decide) ?_
        refine lv_iadd hx hb dL_law_277 ?_
        refine va_sld hx hb hX hbl hbA hS (law_ix (c := 1) rfl hL (by omega)) dL_law_278 ?_
        refine lv_aload_n hx hb dL_law_279 rfl (lv_at hl 0 rfl) ?_
        refine lv_iload_n hx hb dL_law_280 rfl (lv_at hl 3 rfl) ?_
        refine lv_iconst (v := 2) hx hb dL_law_281 (by decide) ?_
        refine lv_iadd hx hb dL_law_282 ?_
        refine va_sld hx hb hX hbl hbA hS (law_ix (c := 2) rfl hL (by omega)) dL_law_283 ?_
        refine lv_aload_n hx hb dL_law_284 rfl (lv_at hl 0 rfl) ?_
        refine lv_iload_n hx hb dL_law_285 rfl (lv_at hl 3 rfl) ?_
        refine lv_iconst (v := 3) hx hb dL_law_286 (by decide) ?_
        refine lv_iadd hx hb dL_law_287 ?_
        refine va_sld hx hb hX hbl hbA hS (law_ix (c := 3) rfl hL (by omega)) dL_law_288 ?_
        refine lv_aload_n hx hb dL_law_289 rfl (lv_at hl 0 rfl) ?_
        refine lv_iload_n hx hb dL_law_290 rfl (lv_at hl 3 rfl) ?_
        refine lv_iconst (v := 4) hx hb dL_law_291 (by decide) ?_
        refine lv_iadd hx hb dL_law_292 ?_
        refine va_sld hx hb hX hbl hbA hS (law_ix (c := 4) rfl hL (by omega)) dL_law_293 ?_
        have h0fx := hW
        refine k_ia (va_runV (As := [.int (xs (nI (5 * k) + 1).toNatClampNeg), .int (xs (nI (5 * k) + 2).toNatClampNeg), .int (xs (nI (5 * k) + 3).toNatClampNeg), .int (xs (nI (5 * k) + 4).toNatClampNeg)]) (rest := []) ⟨hx, hb, hml, hown, hts⟩ (c5_book l (xs (nI (5 * k) + 1).toNatClampNeg) (xs (nI (5 * k) + 2).toNatClampNeg) (xs (nI (5 * k) + 3).toNatClampNeg) (xs (nI (5 * k) + 4).toNatClampNeg) h5f) (cwV 4 hts gL_law_X5_book rfl rfl rfl (by decide +kernel) ⟨(Nat.le_of_ble_eq_true rfl), (Nat.le_of_ble_eq_true rfl)⟩) (k_preV hW hK hN (hW.fx 5 rfl) (EE_5 cA ad S P M 0) rfl) rfl rfl hl.1 rfl (lv_room (Nat.le_of_ble_eq_true rfl)) dL_law_294 ⟨by show _ ≤ 600000; omega, by show _ ≤ 7302249; omega⟩) hS (fun H locs ad' hga hma hW hS => ?_)
        have ea5 : ad 5 0 = ad' 5 0 := (hga _ _ (h0fx.fx 5 rfl)).symm
        have ea6 : ad 6 0 = ad' 6 0 := (hga _ _ (h0fx.fx 6 rfl)).symm
        rw [ea5, ea6] at hl
        refine lv_aload_n hx hb dL_law_297 rfl (lv_at hl 2 rfl) ?_
        refine lv_aload_n hx hb dL_law_298 rfl (lv_at hl 0 rfl) ?_
        refine lv_iload_n hx hb dL_law_299 rfl (lv_at hl 3 rfl) ?_
        refine lv_iconst (v := 1) hx hb dL_law_300 (by decide) ?_
        refine lv_iadd hx hb dL_law_301 ?_
        refine va_sld hx hb hX hbl hbA hS (law_ix (c := 1) rfl hL (by omega)) dL_law_302 ?_
        refine lv_aload_n hx hb dL_law_303 rfl (lv_at hl 0 rfl) ?_
        refine lv_iload_n hx hb dL_law_304 rfl (lv_at hl 3 rfl) ?_
        refine lv_iconst (v := 2) hx hb dL_law_305 (by decide) ?_
        refine lv_iadd hx hb dL_law_306 ?_
        refine va_sld hx hb hX hbl hbA hS (law_ix (c := 2) rfl hL (by omega)) dL_law_307 ?_
        refine lv_aload_n hx hb dL_law_308 rfl (lv_at hl 0 rfl) ?_
        refine lv_iload_n hx hb dL_law_309 rfl (lv_at hl 3 rfl) ?_
        refine lv_iconst (v := 3) hx hb dL_law_310 (by decide) ?_
        refine lv_iadd hx hb dL_law_311 ?_
        refine va_sld hx hb hX hbl hbA hS (law_ix (c := 3) rfl hL (by omega)) dL_law_312 ?_
        refine lv_aload_n hx hb dL_law_313 rfl (lv_at hl 0 rfl) ?_
        refine lv_iload_n hx hb dL_law_314 rfl (lv_at hl 3 rfl) ?_
        refine lv_iconst (v := 4) hx hb dL_law_315 (by decide) ?_
        refine lv_iadd hx hb dL_law_316 ?_
        refine va_sld hx hb hX hbl hbA hS (law_ix (c := 4) rfl hL (by omega)) dL_law_317 ?_
        refine k_i (va_runV (As := [.int (xs (nI (5 * k) + 1).toNatClampNeg), .int (xs (nI (5 * k) + 2).toNatClampNeg), .int (xs (nI (5 * k) + 3).toNatClampNeg), .int (xs (nI (5 * k) + 4).toNatClampNeg)]) (rest := [.int v]) ⟨hx, hb, hml, hown, hts⟩ (c6_book l (xs (nI (5 * k) + 1).toNatClampNeg) (xs (nI (5 * k) + 2).toNatClampNeg) (xs (nI (5 * k) + 3).toNatClampNeg) (xs (nI (5 * k) + 4).toNatClampNeg) h6f) (cwV 4 hts gL_law_X6_book rfl rfl rfl (by decide +kernel) ⟨(Nat.le_of_ble_eq_true rfl), (Nat.le_of_ble_eq_true rfl)⟩) (k_preV hW hK hN (hW.fx 6 rfl) (EE_6 cA ad' S' P' M 0) rfl) rfl rfl hl.1 rfl (lv_room (Nat.le_of_ble_eq_true rfl)) dL_law_318 ⟨by show _ ≤ 600000; omega, by show _ ≤ 7302249; omega⟩) hS (fun H locs hW hS => ?_)
        refine lv_icmp_eq (tgt := 835) hx hb dL_law_321 (by decide) (fun _ => ?_) (fun h => absurd rfl h)
        exact next S' P' N' M' ad' _ _ _ _ _ (by omega) (by omega) hI hW hS hl
      by_cases hn4 : x = 4
      · refine lv_tableIn (off := 294) (tgt := 326) hx hb dL_law_32 (by rw [hn4]; decide) (by rw [hn4]; decide) (by rw [hn4]; rfl) (by decide) ?_
        obtain ⟨v, S', P', M', h5f, h6f, hI⟩ := hB_arrive k S P N M (xs (nI (5 * k) + 1).toNatClampNeg) (xs (nI (5 * k) + 2).toNatClampNeg) hk512 hI 
        refine lv_aload_n hx hb dL_law_326 rfl (lv_at hl 1 rfl) ?_
        refine lv_aload_n hx hb dL_law_327 rfl (lv_at hl 0 rfl) ?_
        refine lv_iload_n hx hb dL_law_328 rfl (lv_at hl 3 rfl) ?_
        refine lv_iconst (v := 1) hx hb dL_law_329 (by decide) ?_
        refine lv_iadd hx hb dL_law_330 ?_
        refine va_sld hx hb hX hbl hbA hS (law_ix (c := 1) rfl hL (by omega)) dL_law_331 ?_
        refine lv_aload_n hx hb dL_law_332 rfl (lv_at hl 0 rfl) ?_
        refine lv_iload_n hx hb dL_law_333 rfl (lv_at hl 3 rfl) ?_
        refine lv_iconst (v := 2) hx hb dL_law_334 (by decide) ?_
        refine lv_iadd hx hb dL_law_335 ?_
        refine va_sld hx hb hX hbl hbA hS (law_ix (c := 2) rfl hL (by omega)) dL_law_336 ?_
        refine k_i (va_runV (As := [.int (xs (nI (5 * k) + 1).toNatClampNeg), .int (xs (nI (5 * k) + 2).toNatClampNeg)]) (rest := []) ⟨hx, hb, hml, hown, hts⟩ (c5_arrive l (xs (nI (5 * k) + 1).toNatClampNeg) (xs (nI (5 * k) + 2).toNatClampNeg) h5f) (cwV 2 hts gL_law_X5_arrive rfl rfl rfl (by decide +kernel) ⟨(Nat.le_of_ble_eq_true rfl), (Nat.le_of_ble_eq_true rfl)⟩) (k_preV hW hK hN (hW.fx 5 rfl) (EE_5 cA ad S P M 0) rfl) rfl rfl hl.1 rfl (lv_room (Nat.le_of_ble_eq_true rfl)) dL_law_337 ⟨by show _ ≤ 600000; omega, by show _ ≤ 7302249; omega⟩) hS (fun H locs hW hS => ?_)
        refine lv_aload_n hx hb dL_law_340 rfl (lv_at hl 2 rfl) ?_
        refine lv_aload_n hx hb dL_law_341 rfl (lv_at hl 0 rfl) ?_
        refine lv_iload_n hx hb dL_law_342 rfl (lv_at hl 3 rfl) ?_
        refine lv_iconst (v := 1) hx hb dL_law_343 (by decide) ?_
        refine lv_iadd hx hb dL_law_344 ?_
        refine va_sld hx hb hX hbl hbA hS (law_ix (c := 1) rfl hL (by omega)) dL_law_345 ?_
        refine lv_aload_n hx hb dL_law_346 rfl (lv_at hl 0 rfl) ?_
        refine lv_iload_n hx hb dL_law_347 rfl (lv_at hl 3 rfl) ?_
        refine lv_iconst (v := 2) hx hb dL_law_348 (by decide) ?_
        refine lv_iadd hx hb dL_law_349 ?_
        refine va_sld hx hb hX hbl hbA hS (law_ix (c := 2) rfl hL (by omega)) dL_law_350 ?_
        refine k_i (va_runV (As := [.int (xs (nI (5 * k) + 1).toNatClampNeg), .int (xs (nI (5 * k) + 2).toNatClampNeg)]) (rest := [.int v]) ⟨hx, hb, hml, hown, hts⟩ (c6_arrive l (xs (nI (5 * k) + 1).toNatClampNeg) (xs (nI (5 * k) + 2).toNatClampNeg) h6f) (cwV 2 hts gL_law_X6_arrive rfl rfl rfl (by decide +kernel) ⟨(Nat.le_of_ble_eq_true rfl), (Nat.le_of_ble_eq_true rfl)⟩) (k_preV hW hK hN (hW.fx 6 rfl) (EE_6 cA ad S' P' M 0) rfl) rfl rfl hl.1 rfl (lv_room (Nat.le_of_ble_eq_true rfl)) dL_law_351 ⟨by show _ ≤ 600000; omega, by show _ ≤ 7302249; omega⟩) hS (fun H locs hW hS => ?_)
        refine lv_icmp_eq (tgt := 835) hx hb dL_law_354 (by decide) (fun _ => ?_) (fun h => absurd rfl h)
        exact next S' P' N M' ad _ _ _ _ _ (by omega) (by omega) hI hW hS hl
      by_cases hn5 : x = 5
      · refine lv_tableIn (off := 327) (tgt := 359) hx hb dL_law_32 (by rw [hn5]; decide) (by rw [hn5]; decide) (by rw [hn5]; rfl) (by decide) ?_
        obtain ⟨v, S', P', M', h5f, h6f, hI⟩ := hB_open k S P N M (xs (nI (5 * k) + 1).toNatClampNeg) hk512 hI 
        refine lv_aload_n hx hb dL_law_359 rfl (lv_at hl 1 rfl) ?_
        refine lv_aload_n hx hb dL_law_360 rfl (lv_at hl 0 rfl) ?_
        refine lv_iload_n hx hb dL_law_361 rfl (lv_at hl 3 rfl) ?_
        refine lv_iconst (v := 1) hx hb dL_law_362 (by decide) ?_
        refine lv_iadd hx hb dL_law_363 ?_
        refine va_sld hx hb hX hbl hbA hS (law_ix (c := 1) rfl hL (by omega)) dL_law_364 ?_
        refine k_i (va_runV (As := [.int (xs (nI (5 * k) + 1).toNatClampNeg)]) (rest := []) ⟨hx, hb, hml, hown, hts⟩ (c5_open l (xs (nI (5 * k) + 1).toNatClampNeg) h5f) (cwV 1 hts gL_law_X5_open rfl rfl rfl (by decide +kernel) ⟨(Nat.le_of_ble_eq_true rfl), (Nat.le_of_ble_eq_true rfl)⟩) (k_preV hW hK hN (hW.fx 5 rfl) (EE_5 cA ad S P M 0) rfl) rfl rfl hl.1 rfl (lv_room (Nat.le_of_ble_eq_true rfl)) dL_law_365 ⟨by show _ ≤ 600000; omega, by show _ ≤ 7302249; omega⟩) hS (fun H locs hW hS => ?_)
        refine lv_aload_n hx hb dL_law_368 rfl (lv_at hl 2 rfl) ?_
        refine lv_aload_n hx hb dL_law_369 rfl (lv_at hl 0 rfl) ?_
        refine lv_iload_n hx hb dL_law_370 rfl (lv_at hl 3 rfl) ?_
        refine lv_iconst (v := 1) hx hb dL_law_371 (by decide) ?_
        refine lv_iadd hx hb dL_law_372 ?_
        refine va_sld hx hb hX hbl hbA hS (law_ix (c := 1) rfl hL (by omega)) dL_law_373 ?_
        refine k_i (va_runV (As := [.int (xs (nI (5 * k) + 1).toNatClampNeg)]) (rest := [.int v]) ⟨hx, hb, hml, hown, hts⟩ (c6_open l (xs (nI (5 * k) + 1).toNatClampNeg) h6f) (cwV 1 hts gL_law_X6_open rfl rfl rfl (by decide +kernel) ⟨(Nat.le_of_ble_eq_true rfl), (Nat.le_of_ble_eq_true rfl)⟩) (k_preV hW hK hN (hW.fx 6 rfl) (EE_6 cA ad S' P' M 0) rfl) rfl rfl hl.1 rfl (lv_room (Nat.le_of_ble_eq_true rfl)) dL_law_374 ⟨by show _ ≤ 600000; omega, by show _ ≤ 7302249; omega⟩) hS (fun H locs hW hS => ?_)
        refine lv_icmp_eq (tgt := 835) hx hb dL_law_377 (by decide) (fun _ => ?_) (fun h => absurd rfl h)
        exact next S' P' N M' ad _ _ _ _ _ (by omega) (by omega) hI hW hS hl
      by_cases hn6 : x = 6
      · refine lv_tableIn (off := 350) (tgt := 382) hx hb dL_law_32 (by rw [hn6]; decide) (by rw [hn6]; decide) (by rw [hn6]; rfl) (by decide) ?_
        obtain ⟨v, S', P', M', h5f, h6f, hI⟩ := hB_recall k S P N M (xs (nI (5 * k) + 1).toNatClampNeg) (xs (nI (5 * k) + 2).toNatClampNeg) hk512 hI 
        refine lv_aload_n hx hb dL_law_382 rfl (lv_at hl 1 rfl) ?_
        refine lv_aload_n hx hb dL_law_383 rfl (lv_at hl 0 rfl) ?_
        refine lv_iload_n hx hb dL_law_384 rfl (lv_at hl 3 rfl) ?_
        refine lv_iconst (v := 1) hx hb dL_law_385 (by decide) ?_
        refine lv_iadd hx hb dL_law_386 ?_
        refine va_sld hx hb hX hbl hbA hS (law_ix (c := 1) rfl hL (by omega)) dL_law_387 ?_
        refine lv_aload_n hx hb dL_law_388 rfl (lv_at hl 0 rfl) ?_
        refine lv_iload_n hx hb dL_law_389 rfl (lv_at hl 3 rfl) ?_
        refine lv_iconst (v := 2) hx hb dL_law_390 (by decide) ?_
        refine lv_iadd hx hb dL_law_391 ?_
        refine va_sld hx hb hX hbl hbA hS (law_ix (c := 2) rfl hL (by omega)) dL_law_392 ?_
        refine k_i (va_runV (As := [.int (xs (nI (5 * k) + 1).toNatClampNeg), .int (xs (nI (5 * k) + 2).toNatClampNeg)]) (rest := []) ⟨hx, hb, hml, hown, hts⟩ (c5_recall l (xs (nI (5 * k) + 1).toNatClampNeg) (xs (nI (5 * k) + 2).toNatClampNeg) h5f) (cwV 2 hts gL_law_X5_recall rfl rfl rfl (by decide +kernel) ⟨(Nat.le_of_ble_eq_true rfl), (Nat.le_of_ble_eq_true rfl)⟩) (k_preV hW hK hN (hW.fx 5 rfl) (EE_5 cA ad S P M 0) rfl) rfl rfl hl.1 rfl (lv_room (Nat.le_of_ble_eq_true rfl)) dL_law_393 ⟨by show _ ≤ 600000; omega, by show _ ≤ 7302249; omega⟩) hS (fun H locs hW hS => ?_)
        refine lv_aload_n hx hb dL_law_396 rfl (lv_at hl 2 rfl) ?_
        refine lv_aload_n hx hb dL_law_397 rfl (lv_at hl 0 rfl) ?_
        refine lv_iload_n hx hb dL_law_398 rfl (lv_at hl 3 rfl) ?_
        refine lv_iconst (v := 1) hx hb dL_law_399 (by decide) ?_
        refine lv_iadd hx hb dL_law_400 ?_
        refine va_sld hx hb hX hbl hbA hS (law_ix (c := 1) rfl hL (by omega)) dL_law_401 ?_
        refine lv_aload_n hx hb dL_law_402 rfl (lv_at hl 0 rfl) ?_
        refine lv_iload_n hx hb dL_law_403 rfl (lv_at hl 3 rfl) ?_
        refine lv_iconst (v := 2) hx hb dL_law_404 (by decide) ?_
        refine lv_iadd hx hb dL_law_405 ?_
        refine va_sld hx hb hX hbl hbA hS (law_ix (c := 2) rfl hL (by omega)) dL_law_406 ?_
        refine k_i (va_runV (As := [.int (xs (nI (5 * k) + 1).toNatClampNeg), .int (xs (nI (5 * k) + 2).toNatClampNeg)]) (rest := [.int v]) ⟨hx, hb, hml, hown, hts⟩ (c6_recall l (xs (nI (5 * k) + 1).toNatClampNeg) (xs (nI (5 * k) + 2).toNatClampNeg) h6f) (cwV 2 hts gL_law_X6_recall rfl rfl rfl (by decide +kernel) ⟨(Nat.le_of_ble_eq_true rfl), (Nat.le_of_ble_eq_true rfl)⟩) (k_preV hW hK hN (hW.fx 6 rfl) (EE_6 cA ad S' P' M 0) rfl) rfl rfl hl.1 rfl (lv_room (Nat.le_of_ble_eq_true rfl)) dL_law_407 ⟨by show _ ≤ 600000; omega, by show _ ≤ 7302249; omega⟩) hS (fun H locs hW hS => ?_)
        refine lv_icmp_eq (tgt := 835) hx hb dL_law_410 (by decide) (fun _ => ?_) (fun h => absurd rfl h)
        exact next S' P' N M' ad _ _ _ _ _ (by omega) (by omega) hI hW hS hl
      by_cases hn7 : x = 7
      · refine lv_tableIn (off := 383) (tgt := 415) hx hb dL_law_32 (by rw [hn7]; decide) (by rw [hn7]; decide) (by rw [hn7]; rfl) (by decide) ?_
        obtain ⟨v, S', P', M', h5f, h6f, hI⟩ := hB_settle k S P N M (xs (nI (5 * k) + 1).toNatClampNeg) hk512 hI 
        refine lv_aload_n hx hb dL_law_415 rfl (lv_at hl 1 rfl) ?_
        refine lv_aload_n hx hb dL_law_416 rfl (lv_at hl 0 rfl) ?_
        refine lv_iload_n hx hb dL_law_417 rfl (lv_at hl 3 rfl) ?_
        refine lv_iconst (v := 1) hx hb dL_law_418 (by decide) ?_
        refine lv_iadd hx hb dL_law_419 ?_
        refine va_sld hx hb hX hbl hbA hS (law_ix (c := 1) rfl hL (by omega)) dL_law_420 ?_
        refine k_i (va_runV (As := [.int (xs (nI (5 * k) + 1).toNatClampNeg)]) (rest := []) ⟨hx, hb, hml, hown, hts⟩ (c5_settle l (xs (nI (5 * k) + 1).toNatClampNeg) h5f) (cwV 1 hts gL_law_X5_settle rfl rfl rfl (by decide +kernel) ⟨(Nat.le_of_ble_eq_true rfl), (Nat.le_of_ble_eq_true rfl)⟩) (k_preV hW hK hN (hW.fx 5 rfl) (EE_5 cA ad S P M 0) rfl) rfl rfl hl.1 rfl (lv_room (Nat.le_of_ble_eq_true rfl)) dL_law_421 ⟨by show _ ≤ 600000; omega, by show _ ≤ 7302249; omega⟩) hS (fun H locs hW hS => ?_)
        refine lv_aload_n hx hb dL_law_424 rfl (lv_at hl 2 rfl) ?_
        refine lv_aload_n hx hb dL_law_425 rfl (lv_at hl 0 rfl) ?_
        refine lv_iload_n hx hb dL_law_426 rfl (lv_at hl 3 rfl) ?_
        refine lv_iconst (v := 1) hx hb dL_law_427 (by decide) ?_
        refine lv_iadd hx hb dL_law_428 ?_
        refine va_sld hx hb hX hbl hbA hS (law_ix (c := 1) rfl hL (by omega)) dL_law_429 ?_
        refine k_i (va_runV (As := [.int (xs (nI (5 * k) + 1).toNatClampNeg)]) (rest := [.int v]) ⟨hx, hb, hml, hown, hts⟩ (c6_settle l (xs (nI (5 * k) + 1).toNatClampNeg) h6f) (cwV 1 hts gL_law_X6_settle rfl rfl rfl (by decide +kernel) ⟨(Nat.le_of_ble_eq_true rfl), (Nat.le_of_ble_eq_true rfl)⟩) (k_preV hW hK hN (hW.fx 6 rfl) (EE_6 cA ad S' P' M 0) rfl) rfl rfl hl.1 rfl (lv_room (Nat.le_of_ble_eq_true rfl)) dL_law_430 ⟨by show _ ≤ 600000; omega, by show _ ≤ 7302249; omega⟩) hS (fun H locs hW hS => ?_)
        refine lv_icmp_eq (tgt := 835) hx hb dL_law_433 (by decide) (fun _ => ?_) (fun h => absurd rfl h)
        exact next S' P' N M' ad _ _ _ _ _ (by omega) (by omega) hI hW hS hl
      by_cases hn8 : x = 8
      · refine lv_tableIn (off := 406) (tgt := 438) hx hb dL_law_32 (by rw [hn8]; decide) (by rw [hn8]; decide) (by rw [hn8]; rfl) (by decide) ?_
        obtain ⟨v, S', P', M', h5f, h6f, hI⟩ := hB_depart k S P N M (xs (nI (5 * k) + 1).toNatClampNeg) hk512 hI 
        refine lv_aload_n hx hb dL_law_438 rfl (lv_at hl 1 rfl) ?_
        refine lv_aload_n hx hb dL_law_439 rfl (lv_at hl 0 rfl) ?_
        refine lv_iload_n hx hb dL_law_440 rfl (lv_at hl 3 rfl) ?_
        refine lv_iconst (v := 1) hx hb dL_law_441 (by decide) ?_
        refine lv_iadd hx hb dL_law_442 ?_
        refine va_sld hx hb hX hbl hbA hS (law_ix (c := 1) rfl hL (by omega)) dL_law_443 ?_
        refine k_i (va_runV (As := [.int (xs (nI (5 * k) + 1).toNatClampNeg)]) (rest := []) ⟨hx, hb, hml, hown, hts⟩ (c5_depart l (xs (nI (5 * k) + 1).toNatClampNeg) h5f) (cwV 1 hts gL_law_X5_depart rfl rfl rfl (by decide +kernel) ⟨(Nat.le_of_ble_eq_true rfl), (Nat.le_of_ble_eq_true rfl)⟩) (k_preV hW hK hN (hW.fx 5 rfl) (EE_5 cA ad S P M 0) rfl) rfl rfl hl.1 rfl (lv_room (Nat.le_of_ble_eq_true rfl)) dL_law_444 ⟨by show _ ≤ 600000; omega, by show _ ≤ 7302249; omega⟩) hS (fun H locs hW hS => ?_)
        refine lv_aload_n hx hb dL_law_447 rfl (lv_at hl 2 rfl) ?_
        refine lv_aload_n hx hb dL_law_448 rfl (lv_at hl 0 rfl) ?_
        refine lv_iload_n hx hb dL_law_449 rfl (lv_at hl 3 rfl) ?_
        refine lv_iconst (v := 1) hx hb dL_law_450 (by decide) ?_
        refine lv_iadd hx hb dL_law_451 ?_
        refine va_sld hx hb hX hbl hbA hS (law_ix (c := 1) rfl hL (by omega)) dL_law_452 ?_
        refine k_i (va_runV (As := [.int (xs (nI (5 * k) + 1).toNatClampNeg)]) (rest := [.int v]) ⟨hx, hb, hml, hown, hts⟩ (c6_depart l (xs (nI (5 * k) + 1).toNatClampNeg) h6f) (cwV 1 hts gL_law_X6_depart rfl rfl rfl (by decide +kernel) ⟨(Nat.le_of_ble_eq_true rfl), (Nat.le_of_ble_eq_true rfl)⟩) (k_preV hW hK hN (hW.fx 6 rfl) (EE_6 cA ad S' P' M 0) rfl) rfl rfl hl.1 rfl (lv_room (Nat.le_of_ble_eq_true rfl)) dL_law_453 ⟨by show _ ≤ 600000; omega, by show _ ≤ 7302249; omega⟩) hS (fun H locs hW hS => ?_)
        refine lv_icmp_eq (tgt := 835) hx hb dL_law_456 (by decide) (fun _ => ?_) (fun h => absurd rfl h)
        exact next S' P' N M' ad _ _ _ _ _ (by omega) (by omega) hI hW hS hl
      by_cases hn9 : x = 9
      · refine lv_tableIn (off := 429) (tgt := 461) hx hb dL_law_32 (by rw [hn9]; decide) (by rw [hn9]; decide) (by rw [hn9]; rfl) (by decide) ?_
        obtain ⟨v, S', P', M', h5f, h6f, hI⟩ := hB_off k S P N M (xs (nI (5 * k) + 1).toNatClampNeg) hk512 hI 
        refine lv_aload_n hx hb dL_law_461 rfl (lv_at hl 1 rfl) ?_
        refine lv_aload_n hx hb dL_law_462 rfl (lv_at hl 0 rfl) ?_
        refine lv_iload_n hx hb dL_law_463 rfl (lv_at hl 3 rfl) ?_
        refine lv_iconst (v := 1) hx hb dL_law_464 (by decide) ?_
        refine lv_iadd hx hb dL_law_465 ?_
        refine va_sld hx hb hX hbl hbA hS (law_ix (c := 1) rfl hL (by omega)) dL_law_466 ?_
        refine k_i (va_runV (As := [.int (xs (nI (5 * k) + 1).toNatClampNeg)]) (rest := []) ⟨hx, hb, hml, hown, hts⟩ (c5_off l (xs (nI (5 * k) + 1).toNatClampNeg) h5f) (cwV 1 hts gL_law_X5_off rfl rfl rfl (by decide +kernel) ⟨(Nat.le_of_ble_eq_true rfl), (Nat.le_of_ble_eq_true rfl)⟩) (k_preV hW hK hN (hW.fx 5 rfl) (EE_5 cA ad S P M 0) rfl) rfl rfl hl.1 rfl (lv_room (Nat.le_of_ble_eq_true rfl)) dL_law_467 ⟨by show _ ≤ 600000; omega, by show _ ≤ 7302249; omega⟩) hS (fun H locs hW hS => ?_)
        refine lv_aload_n hx hb dL_law_470 rfl (lv_at hl 2 rfl) ?_
        refine lv_aload_n hx hb dL_law_471 rfl (lv_at hl 0 rfl) ?_
        refine lv_iload_n hx hb dL_law_472 rfl (lv_at hl 3 rfl) ?_
        refine lv_iconst (v := 1) hx hb dL_law_473 (by decide) ?_
        refine lv_iadd hx hb dL_law_474 ?_
        refine va_sld hx hb hX hbl hbA hS (law_ix (c := 1) rfl hL (by omega)) dL_law_475 ?_
        refine k_i (va_runV (As := [.int (xs (nI (5 * k) + 1).toNatClampNeg)]) (rest := [.int v]) ⟨hx, hb, hml, hown, hts⟩ (c6_off l (xs (nI (5 * k) + 1).toNatClampNeg) h6f) (cwV 1 hts gL_law_X6_off rfl rfl rfl (by decide +kernel) ⟨(Nat.le_of_ble_eq_true rfl), (Nat.le_of_ble_eq_true rfl)⟩) (k_preV hW hK hN (hW.fx 6 rfl) (EE_6 cA ad S' P' M 0) rfl) rfl rfl hl.1 rfl (lv_room (Nat.le_of_ble_eq_true rfl)) dL_law_476 ⟨by show _ ≤ 600000; omega, by show _ ≤ 7302249; omega⟩) hS (fun H locs hW hS => ?_)
        refine lv_icmp_eq (tgt := 835) hx hb dL_law_479 (by decide) (fun _ => ?_) (fun h => absurd rfl h)
        exact next S' P' N M' ad _ _ _ _ _ (by omega) (by omega) hI hW hS hl
      by_cases hn10 : x = 10
      · refine lv_tableIn (off := 452) (tgt := 484) hx hb dL_law_32 (by rw [hn10]; decide) (by rw [hn10]; decide) (by rw [hn10]; rfl) (by decide) ?_
        obtain ⟨v, h5f, h6f, hI⟩ := hB_shipOf k S P N M (xs (nI (5 * k) + 1).toNatClampNeg) (xs (nI (5 * k) + 2).toNatClampNeg) hk512 hI 
        refine lv_aload_n hx hb dL_law_484 rfl (lv_at hl 1 rfl) ?_
        refine lv_aload_n hx hb dL_law_485 rfl (lv_at hl 0 rfl) ?_
        refine lv_iload_n hx hb dL_law_486 rfl (lv_at hl 3 rfl) ?_
        refine lv_iconst (v := 1) hx hb dL_law_487 (by decide) ?_
        refine lv_iadd hx hb dL_law_488 ?_
        refine va_sld hx hb hX hbl hbA hS (law_ix (c := 1) rfl hL (by omega)) dL_law_489 ?_
        refine lv_aload_n hx hb dL_law_490 rfl (lv_at hl 0 rfl) ?_
        refine lv_iload_n hx hb dL_law_491 rfl (lv_at hl 3 rfl) ?_
        refine lv_iconst (v := 2) hx hb dL_law_492 (by decide) ?_
        refine lv_iadd hx hb dL_law_493 ?_
        refine va_sld hx hb hX hbl hbA hS (law_ix (c := 2) rfl hL (by omega)) dL_law_494 ?_
        refine k_i (va_runV (As := [.int (xs (nI (5 * k) + 1).toNatClampNeg), .int (xs (nI (5 * k) + 2).toNatClampNeg)]) (rest := []) ⟨hx, hb, hml, hown, hts⟩ (c5_shipOf l (xs (nI (5 * k) + 1).toNatClampNeg) (xs (nI (5 * k) + 2).toNatClampNeg) h5f) (cwV 2 hts gL_law_X5_shipOf rfl rfl rfl (by decide +kernel) ⟨(Nat.le_of_ble_eq_true rfl), (Nat.le_of_ble_eq_true rfl)⟩) (k_preV hW hK hN (hW.fx 5 rfl) (EE_5 cA ad S P M 0) rfl) rfl rfl hl.1 rfl (lv_room (Nat.le_of_ble_eq_true rfl)) dL_law_495 ⟨by show _ ≤ 600000; omega, by show _ ≤ 7302249; omega⟩) hS (fun H locs hW hS => ?_)
        refine lv_aload_n hx hb dL_law_498 rfl (lv_at hl 2 rfl) ?_
        refine lv_aload_n hx hb dL_law_499 rfl (lv_at hl 0 rfl) ?_
        refine lv_iload_n hx hb dL_law_500 rfl (lv_at hl 3 rfl) ?_
        refine lv_iconst (v := 1) hx hb dL_law_501 (by decide) ?_
        refine lv_iadd hx hb dL_law_502 ?_
        refine va_sld hx hb hX hbl hbA hS (law_ix (c := 1) rfl hL (by omega)) dL_law_503 ?_
        refine lv_aload_n hx hb dL_law_504 rfl (lv_at hl 0 rfl) ?_
        refine lv_iload_n hx hb dL_law_505 rfl (lv_at hl 3 rfl) ?_
        refine lv_iconst (v := 2) hx hb dL_law_506 (by decide) ?_
        refine lv_iadd hx hb dL_law_507 ?_
        refine va_sld hx hb hX hbl hbA hS (law_ix (c := 2) rfl hL (by omega)) dL_law_508 ?_
        refine k_i (va_runV (As := [.int (xs (nI (5 * k) + 1).toNatClampNeg), .int (xs (nI (5 * k) + 2).toNatClampNeg)]) (rest := [.int v]) ⟨hx, hb, hml, hown, hts⟩ (c6_shipOf l (xs (nI (5 * k) + 1).toNatClampNeg) (xs (nI (5 * k) + 2).toNatClampNeg) h6f) (cwV 2 hts gL_law_X6_shipOf rfl rfl rfl (by decide +kernel) ⟨(Nat.le_of_ble_eq_true rfl), (Nat.le_of_ble_eq_true rfl)⟩) (k_preV hW hK hN (hW.fx 6 rfl) (EE_6 cA ad S P M 0) rfl) rfl rfl hl.1 rfl (lv_room (Nat.le_of_ble_eq_true rfl)) dL_law_509 ⟨by show _ ≤ 600000; omega, by show _ ≤ 7302249; omega⟩) hS (fun H locs hW hS => ?_)
        refine lv_icmp_eq (tgt := 835) hx hb dL_law_512 (by decide) (fun _ => ?_) (fun h => absurd rfl h)
        exact next S P N M ad _ _ _ _ _ (by omega) (by omega) hI hW hS hl
      by_cases hn11 : x = 11
      · refine lv_tableIn (off := 485) (tgt := 517) hx hb dL_law_32 (by rw [hn11]; decide) (by rw [hn11]; decide) (by rw [hn11]; rfl) (by decide) ?_
        obtain ⟨v, h5f, h6f, hI⟩ := hB_sailingOf k S P N M (xs (nI (5 * k) + 1).toNatClampNeg) (xs (nI (5 * k) + 2).toNatClampNeg) hk512 hI 
        refine lv_aload_n hx hb dL_law_517 rfl (lv_at hl 1 rfl) ?_
        refine lv_aload_n hx hb dL_law_518 rfl (lv_at hl 0 rfl) ?_
        refine lv_iload_n hx hb dL_law_519 rfl (lv_at hl 3 rfl) ?_
        refine lv_iconst (v := 1) hx hb dL_law_520 (by decide) ?_
        refine lv_iadd hx hb dL_law_521 ?_
        refine va_sld hx hb hX hbl hbA hS (law_ix (c := 1) rfl hL (by omega)) dL_law_522 ?_
        refine lv_aload_n hx hb dL_law_523 rfl (lv_at hl 0 rfl) ?_
        refine lv_iload_n hx hb dL_law_524 rfl (lv_at hl 3 rfl) ?_
        refine lv_iconst (v := 2) hx hb dL_law_525 (by decide) ?_
        refine lv_iadd hx hb dL_law_526 ?_
        refine va_sld hx hb hX hbl hbA hS (law_ix (c := 2) rfl hL (by omega)) dL_law_527 ?_
        refine k_i (va_runV (As := [.int (xs (nI (5 * k) + 1).toNatClampNeg), .int (xs (nI (5 * k) + 2).toNatClampNeg)]) (rest := []) ⟨hx, hb, hml, hown, hts⟩ (c5_sailingOf l (xs (nI (5 * k) + 1).toNatClampNeg) (xs (nI (5 * k) + 2).toNatClampNeg) h5f) (cwV 2 hts gL_law_X5_sailingOf rfl rfl rfl (by decide +kernel) ⟨(Nat.le_of_ble_eq_true rfl), (Nat.le_of_ble_eq_true rfl)⟩) (k_preV hW hK hN (hW.fx 5 rfl) (EE_5 cA ad S P M 0) rfl) rfl rfl hl.1 rfl (lv_room (Nat.le_of_ble_eq_true rfl)) dL_law_528 ⟨by show _ ≤ 600000; omega, by show _ ≤ 7302249; omega⟩) hS (fun H locs hW hS => ?_)
        refine lv_aload_n hx hb dL_law_531 rfl (lv_at hl 2 rfl) ?_
        refine lv_aload_n hx hb dL_law_532 rfl (lv_at hl 0 rfl) ?_
        refine lv_iload_n hx hb dL_law_533 rfl (lv_at hl 3 rfl) ?_
        refine lv_iconst (v := 1) hx hb dL_law_534 (by decide) ?_
        refine lv_iadd hx hb dL_law_535 ?_
        refine va_sld hx hb hX hbl hbA hS (law_ix (c := 1) rfl hL (by omega)) dL_law_536 ?_
        refine lv_aload_n hx hb dL_law_537 rfl (lv_at hl 0 rfl) ?_
        refine lv_iload_n hx hb dL_law_538 rfl (lv_at hl 3 rfl) ?_
        refine lv_iconst (v := 2) hx hb dL_law_539 (by decide) ?_
        refine lv_iadd hx hb dL_law_540 ?_
        refine va_sld hx hb hX hbl hbA hS (law_ix (c := 2) rfl hL (by omega)) dL_law_541 ?_
        refine k_i (va_runV (As := [.int (xs (nI (5 * k) + 1).toNatClampNeg), .int (xs (nI (5 * k) + 2).toNatClampNeg)]) (rest := [.int v]) ⟨hx, hb, hml, hown, hts⟩ (c6_sailingOf l (xs (nI (5 * k) + 1).toNatClampNeg) (xs (nI (5 * k) + 2).toNatClampNeg) h6f) (cwV 2 hts gL_law_X6_sailingOf rfl rfl rfl (by decide +kernel) ⟨(Nat.le_of_ble_eq_true rfl), (Nat.le_of_ble_eq_true rfl)⟩) (k_preV hW hK hN (hW.fx 6 rfl) (EE_6 cA ad S P M 0) rfl) rfl rfl hl.1 rfl (lv_room (Nat.le_of_ble_eq_true rfl)) dL_law_542 ⟨by show _ ≤ 600000; omega, by show _ ≤ 7302249; omega⟩) hS (fun H locs hW hS => ?_)
        refine lv_icmp_eq (tgt := 835) hx hb dL_law_545 (by decide) (fun _ => ?_) (fun h => absurd rfl h)
        exact next S P N M ad _ _ _ _ _ (by omega) (by omega) hI hW hS hl
      by_cases hn12 : x = 12
      · refine lv_tableIn (off := 518) (tgt := 550) hx hb dL_law_32 (by rw [hn12]; decide) (by rw [hn12]; decide) (by rw [hn12]; rfl) (by decide) ?_
        obtain ⟨v, h5f, h6f, hI⟩ := hB_ticketOf k S P N M (xs (nI (5 * k) + 1).toNatClampNeg) (xs (nI (5 * k) + 2).toNatClampNeg) hk512 hI 
        refine lv_aload_n hx hb dL_law_550 rfl (lv_at hl 1 rfl) ?_
        refine lv_aload_n hx hb dL_law_551 rfl (lv_at hl 0 rfl) ?_
        refine lv_iload_n hx hb dL_law_552 rfl (lv_at hl 3 rfl) ?_
        refine lv_iconst (v := 1) hx hb dL_law_553 (by decide) ?_
        refine lv_iadd hx hb dL_law_554 ?_
        refine va_sld hx hb hX hbl hbA hS (law_ix (c := 1) rfl hL (by omega)) dL_law_555 ?_
        refine lv_aload_n hx hb dL_law_556 rfl (lv_at hl 0 rfl) ?_
        refine lv_iload_n hx hb dL_law_557 rfl (lv_at hl 3 rfl) ?_
        refine lv_iconst (v := 2) hx hb dL_law_558 (by decide) ?_
        refine lv_iadd hx hb dL_law_559 ?_
        refine va_sld hx hb hX hbl hbA hS (law_ix (c := 2) rfl hL (by omega)) dL_law_560 ?_
        refine k_i (va_runV (As := [.int (xs (nI (5 * k) + 1).toNatClampNeg), .int (xs (nI (5 * k) + 2).toNatClampNeg)]) (rest := []) ⟨hx, hb, hml, hown, hts⟩ (c5_ticketOf l (xs (nI (5 * k) + 1).toNatClampNeg) (xs (nI (5 * k) + 2).toNatClampNeg) h5f) (cwV 2 hts gL_law_X5_ticketOf rfl rfl rfl (by decide +kernel) ⟨(Nat.le_of_ble_eq_true rfl), (Nat.le_of_ble_eq_true rfl)⟩) (k_preV hW hK hN (hW.fx 5 rfl) (EE_5 cA ad S P M 0) rfl) rfl rfl hl.1 rfl (lv_room (Nat.le_of_ble_eq_true rfl)) dL_law_561 ⟨by show _ ≤ 600000; omega, by show _ ≤ 7302249; omega⟩) hS (fun H locs hW hS => ?_)
        refine lv_aload_n hx hb dL_law_564 rfl (lv_at hl 2 rfl) ?_
        refine lv_aload_n hx hb dL_law_565 rfl (lv_at hl 0 rfl) ?_
        refine lv_iload_n hx hb dL_law_566 rfl (lv_at hl 3 rfl) ?_
        refine lv_iconst (v := 1) hx hb dL_law_567 (by decide) ?_
        refine lv_iadd hx hb dL_law_568 ?_
        refine va_sld hx hb hX hbl hbA hS (law_ix (c := 1) rfl hL (by omega)) dL_law_569 ?_
        refine lv_aload_n hx hb dL_law_570 rfl (lv_at hl 0 rfl) ?_
        refine lv_iload_n hx hb dL_law_571 rfl (lv_at hl 3 rfl) ?_
        refine lv_iconst (v := 2) hx hb dL_law_572 (by decide) ?_
        refine lv_iadd hx hb dL_law_573 ?_
        refine va_sld hx hb hX hbl hbA hS (law_ix (c := 2) rfl hL (by omega)) dL_law_574 ?_
        refine k_i (va_runV (As := [.int (xs (nI (5 * k) + 1).toNatClampNeg), .int (xs (nI (5 * k) + 2).toNatClampNeg)]) (rest := [.int v]) ⟨hx, hb, hml, hown, hts⟩ (c6_ticketOf l (xs (nI (5 * k) + 1).toNatClampNeg) (xs (nI (5 * k) + 2).toNatClampNeg) h6f) (cwV 2 hts gL_law_X6_ticketOf rfl rfl rfl (by decide +kernel) ⟨(Nat.le_of_ble_eq_true rfl), (Nat.le_of_ble_eq_true rfl)⟩) (k_preV hW hK hN (hW.fx 6 rfl) (EE_6 cA ad S P M 0) rfl) rfl rfl hl.1 rfl (lv_room (Nat.le_of_ble_eq_true rfl)) dL_law_575 ⟨by show _ ≤ 600000; omega, by show _ ≤ 7302249; omega⟩) hS (fun H locs hW hS => ?_)
        refine lv_icmp_eq (tgt := 835) hx hb dL_law_578 (by decide) (fun _ => ?_) (fun h => absurd rfl h)
        exact next S P N M ad _ _ _ _ _ (by omega) (by omega) hI hW hS hl
      by_cases hn13 : x = 13
      · refine lv_tableIn (off := 551) (tgt := 583) hx hb dL_law_32 (by rw [hn13]; decide) (by rw [hn13]; decide) (by rw [hn13]; rfl) (by decide) ?_
        obtain ⟨v, h5f, h6f, hI⟩ := hB_at k S P N M (xs (nI (5 * k) + 1).toNatClampNeg) (xs (nI (5 * k) + 2).toNatClampNeg) (xs (nI (5 * k) + 3).toNatClampNeg) (xs (nI (5 * k) + 4).toNatClampNeg) hk512 hI 
        refine lv_aload_n hx hb dL_law_583 rfl (lv_at hl 1 rfl) ?_
        refine lv_aload_n hx hb dL_law_584 rfl (lv_at hl 0 rfl) ?_
        refine lv_iload_n hx hb dL_law_585 rfl (lv_at hl 3 rfl) ?_
        refine lv_iconst (v := 1) hx hb dL_law_586 (by decide) ?_
        refine lv_iadd hx hb dL_law_587 ?_
        refine va_sld hx hb hX hbl hbA hS (law_ix (c := 1) rfl hL (by omega)) dL_law_588 ?_
        refine lv_aload_n hx hb dL_law_589 rfl (lv_at hl 0 rfl) ?_
        refine lv_iload_n hx hb dL_law_590 rfl (lv_at hl 3 rfl) ?_
        refine lv_iconst (v := 2) hx hb dL_law_591 (by decide) ?_
        refine lv_iadd hx hb dL_law_592 ?_
        refine va_sld hx hb hX hbl hbA hS (law_ix (c := 2) rfl hL (by omega)) dL_law_593 ?_
        refine lv_aload_n hx hb dL_law_594 rfl (lv_at hl 0 rfl) ?_
        refine lv_iload_n hx hb dL_law_595 rfl (lv_at hl 3 rfl) ?_
        refine lv_iconst (v := 3) hx hb dL_law_596 (by decide) ?_
        refine lv_iadd hx hb dL_law_597 ?_
        refine va_sld hx hb hX hbl hbA hS (law_ix (c := 3) rfl hL (by omega)) dL_law_598 ?_
        refine lv_aload_n hx hb dL_law_599 rfl (lv_at hl 0 rfl) ?_
        refine lv_iload_n hx hb dL_law_600 rfl (lv_at hl 3 rfl) ?_
        refine lv_iconst (v := 4) hx hb dL_law_601 (by decide) ?_
        refine lv_iadd hx hb dL_law_602 ?_
        refine va_sld hx hb hX hbl hbA hS (law_ix (c := 4) rfl hL (by omega)) dL_law_603 ?_
        refine k_i (va_runV (As := [.int (xs (nI (5 * k) + 1).toNatClampNeg), .int (xs (nI (5 * k) + 2).toNatClampNeg), .int (xs (nI (5 * k) + 3).toNatClampNeg), .int (xs (nI (5 * k) + 4).toNatClampNeg)]) (rest := []) ⟨hx, hb, hml, hown, hts⟩ (c5_at l (xs (nI (5 * k) + 1).toNatClampNeg) (xs (nI (5 * k) + 2).toNatClampNeg) (xs (nI (5 * k) + 3).toNatClampNeg) (xs (nI (5 * k) + 4).toNatClampNeg) h5f) (cwV 4 hts gL_law_X5_at rfl rfl rfl (by decide +kernel) ⟨(Nat.le_of_ble_eq_true rfl), (Nat.le_of_ble_eq_true rfl)⟩) (k_preV hW hK hN (hW.fx 5 rfl) (EE_5 cA ad S P M 0) rfl) rfl rfl hl.1 rfl (lv_room (Nat.le_of_ble_eq_true rfl)) dL_law_604 ⟨by show _ ≤ 600000; omega, by show _ ≤ 7302249; omega⟩) hS (fun H locs hW hS => ?_)
        refine lv_aload_n hx hb dL_law_607 rfl (lv_at hl 2 rfl) ?_
        refine lv_aload_n hx hb dL_law_608 rfl (lv_at hl 0 rfl) ?_
        refine lv_iload_n hx hb dL_law_609 rfl (lv_at hl 3 rfl) ?_
        refine lv_iconst (v := 1) hx hb dL_law_610 (by decide) ?_
        refine lv_iadd hx hb dL_law_611 ?_
        refine va_sld hx hb hX hbl hbA hS (law_ix (c := 1) rfl hL (by omega)) dL_law_612 ?_
        refine lv_aload_n hx hb dL_law_613 rfl (lv_at hl 0 rfl) ?_
        refine lv_iload_n hx hb dL_law_614 rfl (lv_at hl 3 rfl) ?_
        refine lv_iconst (v := 2) hx hb dL_law_615 (by decide) ?_
        refine lv_iadd hx hb dL_law_616 ?_
        refine va_sld hx hb hX hbl hbA hS (law_ix (c := 2) rfl hL (by omega)) dL_law_617 ?_
        refine lv_aload_n hx hb dL_law_618 rfl (lv_at hl 0 rfl) ?_
        refine lv_iload_n hx hb dL_law_619 rfl (lv_at hl 3 rfl) ?_
        refine lv_iconst (v := 3) hx hb dL_law_620 (by decide) ?_
        refine lv_iadd hx hb dL_law_621 ?_
        refine va_sld hx hb hX hbl hbA hS (law_ix (c := 3) rfl hL (by omega)) dL_law_622 ?_
        refine lv_aload_n hx hb dL_law_623 rfl (lv_at hl 0 rfl) ?_
        refine lv_iload_n hx hb dL_law_624 rfl (lv_at hl 3 rfl) ?_
        refine lv_iconst (v := 4) hx hb dL_law_625 (by decide) ?_
        refine lv_iadd hx hb dL_law_626 ?_
        refine va_sld hx hb hX hbl hbA hS (law_ix (c := 4) rfl hL (by omega)) dL_law_627 ?_
        refine k_i (va_runV (As := [.int (xs (nI (5 * k) + 1).toNatClampNeg), .int (xs (nI (5 * k) + 2).toNatClampNeg), .int (xs (nI (5 * k) + 3).toNatClampNeg), .int (xs (nI (5 * k) + 4).toNatClampNeg)]) (rest := [.int v]) ⟨hx, hb, hml, hown, hts⟩ (c6_at l (xs (nI (5 * k) + 1).toNatClampNeg) (xs (nI (5 * k) + 2).toNatClampNeg) (xs (nI (5 * k) + 3).toNatClampNeg) (xs (nI (5 * k) + 4).toNatClampNeg) h6f) (cwV 4 hts gL_law_X6_at rfl rfl rfl (by decide +kernel) ⟨(Nat.le_of_ble_eq_true rfl), (Nat.le_of_ble_eq_true rfl)⟩) (k_preV hW hK hN (hW.fx 6 rfl) (EE_6 cA ad S P M 0) rfl) rfl rfl hl.1 rfl (lv_room (Nat.le_of_ble_eq_true rfl)) dL_law_628 ⟨by show _ ≤ 600000; omega, by show _ ≤ 7302249; omega⟩) hS (fun H locs hW hS => ?_)
        refine lv_icmp_eq (tgt := 835) hx hb dL_law_631 (by decide) (fun _ => ?_) (fun h => absurd rfl h)
        exact next S P N M ad _ _ _ _ _ (by omega) (by omega) hI hW hS hl
      by_cases hn14 : x = 14
      · refine lv_tableIn (off := 604) (tgt := 636) hx hb dL_law_32 (by rw [hn14]; decide) (by rw [hn14]; decide) (by rw [hn14]; rfl) (by decide) ?_
        obtain ⟨v, M', h5f, h6f, hI⟩ := hB_lane k S P N M (xs (nI (5 * k) + 1).toNatClampNeg) (xs (nI (5 * k) + 2).toNatClampNeg) (xs (nI (5 * k) + 3).toNatClampNeg) (xs (nI (5 * k) + 4).toNatClampNeg) hk512 hI 
        refine lv_aload_n hx hb dL_law_636 rfl (lv_at hl 1 rfl) ?_
        refine lv_aload_n hx hb dL_law_637 rfl (lv_at hl 0 rfl) ?_
        refine lv_iload_n hx hb dL_law_638 rfl (lv_at hl 3 rfl) ?_
        refine lv_iconst (v := 1) hx hb dL_law_639 (by decide) ?_
        refine lv_iadd hx hb dL_law_640 ?_
        refine va_sld hx hb hX hbl hbA hS (law_ix (c := 1) rfl hL (by omega)) dL_law_641 ?_
        refine lv_aload_n hx hb dL_law_642 rfl (lv_at hl 0 rfl) ?_
        refine lv_iload_n hx hb dL_law_643 rfl (lv_at hl 3 rfl) ?_
        refine lv_iconst (v := 2) hx hb dL_law_644 (by decide) ?_
        refine lv_iadd hx hb dL_law_645 ?_
        refine va_sld hx hb hX hbl hbA hS (law_ix (c := 2) rfl hL (by omega)) dL_law_646 ?_
        refine lv_aload_n hx hb dL_law_647 rfl (lv_at hl 0 rfl) ?_
        refine lv_iload_n hx hb dL_law_648 rfl (lv_at hl 3 rfl) ?_
        refine lv_iconst (v := 3) hx hb dL_law_649 (by decide) ?_
        refine lv_iadd hx hb dL_law_650 ?_
        refine va_sld hx hb hX hbl hbA hS (law_ix (c := 3) rfl hL (by omega)) dL_law_651 ?_
        refine lv_aload_n hx hb dL_law_652 rfl (lv_at hl 0 rfl) ?_
        refine lv_iload_n hx hb dL_law_653 rfl (lv_at hl 3 rfl) ?_
        refine lv_iconst (v := 4) hx hb dL_law_654 (by decide) ?_
        refine lv_iadd hx hb dL_law_655 ?_
        refine va_sld hx hb hX hbl hbA hS (law_ix (c := 4) rfl hL (by omega)) dL_law_656 ?_
        refine k_i (va_runV (As := [.int (xs (nI (5 * k) + 1).toNatClampNeg), .int (xs (nI (5 * k) + 2).toNatClampNeg), .int (xs (nI (5 * k) + 3).toNatClampNeg), .int (xs (nI (5 * k) + 4).toNatClampNeg)]) (rest := []) ⟨hx, hb, hml, hown, hts⟩ (c5_lane l (xs (nI (5 * k) + 1).toNatClampNeg) (xs (nI (5 * k) + 2).toNatClampNeg) (xs (nI (5 * k) + 3).toNatClampNeg) (xs (nI (5 * k) + 4).toNatClampNeg) h5f) (cwV 4 hts gL_law_X5_lane rfl rfl rfl (by decide +kernel) ⟨(Nat.le_of_ble_eq_true rfl), (Nat.le_of_ble_eq_true rfl)⟩) (k_preV hW hK hN (hW.fx 5 rfl) (EE_5 cA ad S P M 0) rfl) rfl rfl hl.1 rfl (lv_room (Nat.le_of_ble_eq_true rfl)) dL_law_657 ⟨by show _ ≤ 600000; omega, by show _ ≤ 7302249; omega⟩) hS (fun H locs hW hS => ?_)
        refine lv_aload_n hx hb dL_law_660 rfl (lv_at hl 2 rfl) ?_
        refine lv_aload_n hx hb dL_law_661 rfl (lv_at hl 0 rfl) ?_
        refine lv_iload_n hx hb dL_law_662 rfl (lv_at hl 3 rfl) ?_
        refine lv_iconst (v := 1) hx hb dL_law_663 (by decide) ?_
        refine lv_iadd hx hb dL_law_664 ?_
        refine va_sld hx hb hX hbl hbA hS (law_ix (c := 1) rfl hL (by omega)) dL_law_665 ?_
        refine lv_aload_n hx hb dL_law_666 rfl (lv_at hl 0 rfl) ?_
        refine lv_iload_n hx hb dL_law_667 rfl (lv_at hl 3 rfl) ?_
        refine lv_iconst (v := 2) hx hb dL_law_668 (by decide) ?_
        refine lv_iadd hx hb dL_law_669 ?_
        refine va_sld hx hb hX hbl hbA hS (law_ix (c := 2) rfl hL (by omega)) dL_law_670 ?_
        refine lv_aload_n hx hb dL_law_671 rfl (lv_at hl 0 rfl) ?_
        refine lv_iload_n hx hb dL_law_672 rfl (lv_at hl 3 rfl) ?_
        refine lv_iconst (v := 3) hx hb dL_law_673 (by decide) ?_
        refine lv_iadd hx hb dL_law_674 ?_
        refine va_sld hx hb hX hbl hbA hS (law_ix (c := 3) rfl hL (by omega)) dL_law_675 ?_
        refine lv_aload_n hx hb dL_law_676 rfl (lv_at hl 0 rfl) ?_
        refine lv_iload_n hx hb dL_law_677 rfl (lv_at hl 3 rfl) ?_
        refine lv_iconst (v := 4) hx hb dL_law_678 (by decide) ?_
        refine lv_iadd hx hb dL_law_679 ?_
        refine va_sld hx hb hX hbl hbA hS (law_ix (c := 4) rfl hL (by omega)) dL_law_680 ?_
        refine k_i (va_runV (As := [.int (xs (nI (5 * k) + 1).toNatClampNeg), .int (xs (nI (5 * k) + 2).toNatClampNeg), .int (xs (nI (5 * k) + 3).toNatClampNeg), .int (xs (nI (5 * k) + 4).toNatClampNeg)]) (rest := [.int v]) ⟨hx, hb, hml, hown, hts⟩ (c6_lane l (xs (nI (5 * k) + 1).toNatClampNeg) (xs (nI (5 * k) + 2).toNatClampNeg) (xs (nI (5 * k) + 3).toNatClampNeg) (xs (nI (5 * k) + 4).toNatClampNeg) h6f) (cwV 4 hts gL_law_X6_lane rfl rfl rfl (by decide +kernel) ⟨(Nat.le_of_ble_eq_true rfl), (Nat.le_of_ble_eq_true rfl)⟩) (k_preV hW hK hN (hW.fx 6 rfl) (EE_6 cA ad S P M 0) rfl) rfl rfl hl.1 rfl (lv_room (Nat.le_of_ble_eq_true rfl)) dL_law_681 ⟨by show _ ≤ 600000; omega, by show _ ≤ 7302249; omega⟩) hS (fun H locs hW hS => ?_)
        refine lv_icmp_eq (tgt := 835) hx hb dL_law_684 (by decide) (fun _ => ?_) (fun h => absurd rfl h)
        exact next S P N M' ad _ _ _ _ _ (by omega) (by omega) hI hW hS hl
      by_cases hn15 : x = 15
      · refine lv_tableIn (off := 657) (tgt := 689) hx hb dL_law_32 (by rw [hn15]; decide) (by rw [hn15]; decide) (by rw [hn15]; rfl) (by decide) ?_
        obtain ⟨v, h5f, h6f, hI⟩ := hB_log k S P N M (xs (nI (5 * k) + 1).toNatClampNeg) (xs (nI (5 * k) + 2).toNatClampNeg) hk512 hI 
        refine lv_aload_n hx hb dL_law_689 rfl (lv_at hl 1 rfl) ?_
        refine lv_aload_n hx hb dL_law_690 rfl (lv_at hl 0 rfl) ?_
        refine lv_iload_n hx hb dL_law_691 rfl (lv_at hl 3 rfl) ?_
        refine lv_iconst (v := 1) hx hb dL_law_692 (by decide) ?_
        refine lv_iadd hx hb dL_law_693 ?_
        refine va_sld hx hb hX hbl hbA hS (law_ix (c := 1) rfl hL (by omega)) dL_law_694 ?_
        refine lv_aload_n hx hb dL_law_695 rfl (lv_at hl 0 rfl) ?_
        refine lv_iload_n hx hb dL_law_696 rfl (lv_at hl 3 rfl) ?_
        refine lv_iconst (v := 2) hx hb dL_law_697 (by decide) ?_
        refine lv_iadd hx hb dL_law_698 ?_
        refine va_sld hx hb hX hbl hbA hS (law_ix (c := 2) rfl hL (by omega)) dL_law_699 ?_
        refine k_i (va_runV (As := [.int (xs (nI (5 * k) + 1).toNatClampNeg), .int (xs (nI (5 * k) + 2).toNatClampNeg)]) (rest := []) ⟨hx, hb, hml, hown, hts⟩ (c5_log l (xs (nI (5 * k) + 1).toNatClampNeg) (xs (nI (5 * k) + 2).toNatClampNeg) h5f) (cwV 2 hts gL_law_X5_log rfl rfl rfl (by decide +kernel) ⟨(Nat.le_of_ble_eq_true rfl), (Nat.le_of_ble_eq_true rfl)⟩) (k_preV hW hK hN (hW.fx 5 rfl) (EE_5 cA ad S P M 0) rfl) rfl rfl hl.1 rfl (lv_room (Nat.le_of_ble_eq_true rfl)) dL_law_700 ⟨by show _ ≤ 600000; omega, by show _ ≤ 7302249; omega⟩) hS (fun H locs hW hS => ?_)
        refine lv_aload_n hx hb dL_law_703 rfl (lv_at hl 2 rfl) ?_
        refine lv_aload_n hx hb dL_law_704 rfl (lv_at hl 0 rfl) ?_
        refine lv_iload_n hx hb dL_law_705 rfl (lv_at hl 3 rfl) ?_
        refine lv_iconst (v := 1) hx hb dL_law_706 (by decide) ?_
        refine lv_iadd hx hb dL_law_707 ?_
        refine va_sld hx hb hX hbl hbA hS (law_ix (c := 1) rfl hL (by omega)) dL_law_708 ?_
        refine lv_aload_n hx hb dL_law_709 rfl (lv_at hl 0 rfl) ?_
        refine lv_iload_n hx hb dL_law_710 rfl (lv_at hl 3 rfl) ?_
        refine lv_iconst (v := 2) hx hb dL_law_711 (by decide) ?_
        refine lv_iadd hx hb dL_law_712 ?_
        refine va_sld hx hb hX hbl hbA hS (law_ix (c := 2) rfl hL (by omega)) dL_law_713 ?_
        refine k_i (va_runV (As := [.int (xs (nI (5 * k) + 1).toNatClampNeg), .int (xs (nI (5 * k) + 2).toNatClampNeg)]) (rest := [.int v]) ⟨hx, hb, hml, hown, hts⟩ (c6_log l (xs (nI (5 * k) + 1).toNatClampNeg) (xs (nI (5 * k) + 2).toNatClampNeg) h6f) (cwV 2 hts gL_law_X6_log rfl rfl rfl (by decide +kernel) ⟨(Nat.le_of_ble_eq_true rfl), (Nat.le_of_ble_eq_true rfl)⟩) (k_preV hW hK hN (hW.fx 6 rfl) (EE_6 cA ad S P M 0) rfl) rfl rfl hl.1 rfl (lv_room (Nat.le_of_ble_eq_true rfl)) dL_law_714 ⟨by show _ ≤ 600000; omega, by show _ ≤ 7302249; omega⟩) hS (fun H locs hW hS => ?_)
        refine lv_icmp_eq (tgt := 835) hx hb dL_law_717 (by decide) (fun _ => ?_) (fun h => absurd rfl h)
        exact next S P N M ad _ _ _ _ _ (by omega) (by omega) hI hW hS hl
      by_cases hn16 : x = 16
      · refine lv_tableIn (off := 690) (tgt := 722) hx hb dL_law_32 (by rw [hn16]; decide) (by rw [hn16]; decide) (by rw [hn16]; rfl) (by decide) ?_
        obtain ⟨v, h5f, h6f, hI⟩ := hB_count k S P N M (xs (nI (5 * k) + 1).toNatClampNeg) hk512 hI 
        refine lv_aload_n hx hb dL_law_722 rfl (lv_at hl 1 rfl) ?_
        refine lv_aload_n hx hb dL_law_723 rfl (lv_at hl 0 rfl) ?_
        refine lv_iload_n hx hb dL_law_724 rfl (lv_at hl 3 rfl) ?_
        refine lv_iconst (v := 1) hx hb dL_law_725 (by decide) ?_
        refine lv_iadd hx hb dL_law_726 ?_
        refine va_sld hx hb hX hbl hbA hS (law_ix (c := 1) rfl hL (by omega)) dL_law_727 ?_
        refine k_i (va_runV (As := [.int (xs (nI (5 * k) + 1).toNatClampNeg)]) (rest := []) ⟨hx, hb, hml, hown, hts⟩ (c5_count l (xs (nI (5 * k) + 1).toNatClampNeg) h5f) (cwV 1 hts gL_law_X5_count rfl rfl rfl (by decide +kernel) ⟨(Nat.le_of_ble_eq_true rfl), (Nat.le_of_ble_eq_true rfl)⟩) (k_preV hW hK hN (hW.fx 5 rfl) (EE_5 cA ad S P M 0) rfl) rfl rfl hl.1 rfl (lv_room (Nat.le_of_ble_eq_true rfl)) dL_law_728 ⟨by show _ ≤ 600000; omega, by show _ ≤ 7302249; omega⟩) hS (fun H locs hW hS => ?_)
        refine lv_aload_n hx hb dL_law_731 rfl (lv_at hl 2 rfl) ?_
        refine lv_aload_n hx hb dL_law_732 rfl (lv_at hl 0 rfl) ?_
        refine lv_iload_n hx hb dL_law_733 rfl (lv_at hl 3 rfl) ?_
        refine lv_iconst (v := 1) hx hb dL_law_734 (by decide) ?_
        refine lv_iadd hx hb dL_law_735 ?_
        refine va_sld hx hb hX hbl hbA hS (law_ix (c := 1) rfl hL (by omega)) dL_law_736 ?_
        refine k_i (va_runV (As := [.int (xs (nI (5 * k) + 1).toNatClampNeg)]) (rest := [.int v]) ⟨hx, hb, hml, hown, hts⟩ (c6_count l (xs (nI (5 * k) + 1).toNatClampNeg) h6f) (cwV 1 hts gL_law_X6_count rfl rfl rfl (by decide +kernel) ⟨(Nat.le_of_ble_eq_true rfl), (Nat.le_of_ble_eq_true rfl)⟩) (k_preV hW hK hN (hW.fx 6 rfl) (EE_6 cA ad S P M 0) rfl) rfl rfl hl.1 rfl (lv_room (Nat.le_of_ble_eq_true rfl)) dL_law_737 ⟨by show _ ≤ 600000; omega, by show _ ≤ 7302249; omega⟩) hS (fun H locs hW hS => ?_)
        refine lv_icmp_eq (tgt := 835) hx hb dL_law_740 (by decide) (fun _ => ?_) (fun h => absurd rfl h)
        exact next S P N M ad _ _ _ _ _ (by omega) (by omega) hI hW hS hl
      by_cases hn17 : x = 17
      · refine lv_tableIn (off := 713) (tgt := 745) hx hb dL_law_32 (by rw [hn17]; decide) (by rw [hn17]; decide) (by rw [hn17]; rfl) (by decide) ?_
        obtain ⟨v, h5f, h6f, hI⟩ := hB_total k S P N M (xs (nI (5 * k) + 1).toNatClampNeg) (xs (nI (5 * k) + 2).toNatClampNeg) hk512 hI 
        refine lv_aload_n hx hb dL_law_745 rfl (lv_at hl 1 rfl) ?_
        refine lv_aload_n hx hb dL_law_746 rfl (lv_at hl 0 rfl) ?_
        refine lv_iload_n hx hb dL_law_747 rfl (lv_at hl 3 rfl) ?_
        refine lv_iconst (v := 1) hx hb dL_law_748 (by decide) ?_
        refine lv_iadd hx hb dL_law_749 ?_
        refine va_sld hx hb hX hbl hbA hS (law_ix (c := 1) rfl hL (by omega)) dL_law_750 ?_
        refine lv_aload_n hx hb dL_law_751 rfl (lv_at hl 0 rfl) ?_
        refine lv_iload_n hx hb dL_law_752 rfl (lv_at hl 3 rfl) ?_
        refine lv_iconst (v := 2) hx hb dL_law_753 (by decide) ?_
        refine lv_iadd hx hb dL_law_754 ?_
        refine va_sld hx hb hX hbl hbA hS (law_ix (c := 2) rfl hL (by omega)) dL_law_755 ?_
        refine k_i (va_runV (As := [.int (xs (nI (5 * k) + 1).toNatClampNeg), .int (xs (nI (5 * k) + 2).toNatClampNeg)]) (rest := []) ⟨hx, hb, hml, hown, hts⟩ (c5_total l (xs (nI (5 * k) + 1).toNatClampNeg) (xs (nI (5 * k) + 2).toNatClampNeg) h5f) (cwV 2 hts gL_law_X5_total rfl rfl rfl (by decide +kernel) ⟨(Nat.le_of_ble_eq_true rfl), (Nat.le_of_ble_eq_true rfl)⟩) (k_preV hW hK hN (hW.fx 5 rfl) (EE_5 cA ad S P M 0) rfl) rfl rfl hl.1 rfl (lv_room (Nat.le_of_ble_eq_true rfl)) dL_law_756 ⟨by show _ ≤ 600000; omega, by show _ ≤ 7302249; omega⟩) hS (fun H locs hW hS => ?_)
        refine lv_aload_n hx hb dL_law_759 rfl (lv_at hl 2 rfl) ?_
        refine lv_aload_n hx hb dL_law_760 rfl (lv_at hl 0 rfl) ?_
        refine lv_iload_n hx hb dL_law_761 rfl (lv_at hl 3 rfl) ?_
        refine lv_iconst (v := 1) hx hb dL_law_762 (by decide) ?_
        refine lv_iadd hx hb dL_law_763 ?_
        refine va_sld hx hb hX hbl hbA hS (law_ix (c := 1) rfl hL (by omega)) dL_law_764 ?_
        refine lv_aload_n hx hb dL_law_765 rfl (lv_at hl 0 rfl) ?_
        refine lv_iload_n hx hb dL_law_766 rfl (lv_at hl 3 rfl) ?_
        refine lv_iconst (v := 2) hx hb dL_law_767 (by decide) ?_
        refine lv_iadd hx hb dL_law_768 ?_
        refine va_sld hx hb hX hbl hbA hS (law_ix (c := 2) rfl hL (by omega)) dL_law_769 ?_
        refine k_i (va_runV (As := [.int (xs (nI (5 * k) + 1).toNatClampNeg), .int (xs (nI (5 * k) + 2).toNatClampNeg)]) (rest := [.int v]) ⟨hx, hb, hml, hown, hts⟩ (c6_total l (xs (nI (5 * k) + 1).toNatClampNeg) (xs (nI (5 * k) + 2).toNatClampNeg) h6f) (cwV 2 hts gL_law_X6_total rfl rfl rfl (by decide +kernel) ⟨(Nat.le_of_ble_eq_true rfl), (Nat.le_of_ble_eq_true rfl)⟩) (k_preV hW hK hN (hW.fx 6 rfl) (EE_6 cA ad S P M 0) rfl) rfl rfl hl.1 rfl (lv_room (Nat.le_of_ble_eq_true rfl)) dL_law_770 ⟨by show _ ≤ 600000; omega, by show _ ≤ 7302249; omega⟩) hS (fun H locs hW hS => ?_)
        refine lv_icmp_eq (tgt := 835) hx hb dL_law_773 (by decide) (fun _ => ?_) (fun h => absurd rfl h)
        exact next S P N M ad _ _ _ _ _ (by omega) (by omega) hI hW hS hl
      by_cases hn18 : x = 18
      · refine lv_tableIn (off := 746) (tgt := 778) hx hb dL_law_32 (by rw [hn18]; decide) (by rw [hn18]; decide) (by rw [hn18]; rfl) (by decide) ?_
        obtain ⟨v, h5f, h6f, hI⟩ := hB_kept k S P N M hk512 hI 
        refine lv_aload_n hx hb dL_law_778 rfl (lv_at hl 1 rfl) ?_
        refine k_l (va_runV (As := []) (rest := []) ⟨hx, hb, hml, hown, hts⟩ (c5_kept l h5f) (cwV 0 hts gL_law_X5_kept rfl rfl rfl (by decide +kernel) ⟨(Nat.le_of_ble_eq_true rfl), (Nat.le_of_ble_eq_true rfl)⟩) (k_preV hW hK hN (hW.fx 5 rfl) (EE_5 cA ad S P M 0) rfl) rfl rfl hl.1 rfl (lv_room (Nat.le_of_ble_eq_true rfl)) dL_law_779 ⟨by show _ ≤ 600000; omega, by show _ ≤ 7302249; omega⟩) hS (fun H locs hW hS => ?_)
        refine lv_aload_n hx hb dL_law_782 rfl (lv_at hl 2 rfl) ?_
        refine k_l (va_runV (As := []) (rest := [.long v]) ⟨hx, hb, hml, hown, hts⟩ (c6_kept l h6f) (cwV 0 hts gL_law_X6_kept rfl rfl rfl (by decide +kernel) ⟨(Nat.le_of_ble_eq_true rfl), (Nat.le_of_ble_eq_true rfl)⟩) (k_preV hW hK hN (hW.fx 6 rfl) (EE_6 cA ad S P M 0) rfl) rfl rfl hl.1 rfl (lv_room (Nat.le_of_ble_eq_true rfl)) dL_law_783 ⟨by show _ ≤ 600000; omega, by show _ ≤ 7302249; omega⟩) hS (fun H locs hW hS => ?_)
        refine W.lcmp hx hb dL_law_786 ?_
        refine lv_if_eq (tgt := 835) hx hb dL_law_787 (by decide) (fun _ => ?_) (fun h => absurd (lg_self v) h)
        exact next S P N M ad _ _ _ _ _ (by omega) (by omega) hI hW hS hl
      by_cases hn19 : x = 19
      · refine lv_tableIn (off := 760) (tgt := 792) hx hb dL_law_32 (by rw [hn19]; decide) (by rw [hn19]; decide) (by rw [hn19]; rfl) (by decide) ?_
        obtain ⟨v, S', P', N', M', h5f, h6f, hI⟩ := hB_audit k S P N M (xs (nI (5 * k) + 1).toNatClampNeg) (xs (nI (5 * k) + 2).toNatClampNeg) (xs (nI (5 * k) + 3).toNatClampNeg) hk512 hI 
        refine lv_aload_n hx hb dL_law_792 rfl (lv_at hl 1 rfl) ?_
        refine lv_aload_n hx hb dL_law_793 rfl (lv_at hl 0 rfl) ?_
        refine lv_iload_n hx hb dL_law_794 rfl (lv_at hl 3 rfl) ?_
        refine lv_iconst (v := 1) hx hb dL_law_795 (by decide) ?_
        refine lv_iadd hx hb dL_law_796 ?_
        refine va_sld hx hb hX hbl hbA hS (law_ix (c := 1) rfl hL (by omega)) dL_law_797 ?_
        refine lv_aload_n hx hb dL_law_798 rfl (lv_at hl 0 rfl) ?_
        refine lv_iload_n hx hb dL_law_799 rfl (lv_at hl 3 rfl) ?_
        refine lv_iconst (v := 2) hx hb dL_law_800 (by decide) ?_
        refine lv_iadd hx hb dL_law_801 ?_
        refine va_sld hx hb hX hbl hbA hS (law_ix (c := 2) rfl hL (by omega)) dL_law_802 ?_
        refine lv_aload_n hx hb dL_law_803 rfl (lv_at hl 0 rfl) ?_
        refine lv_iload_n hx hb dL_law_804 rfl (lv_at hl 3 rfl) ?_
        refine lv_iconst (v := 3) hx hb dL_law_805 (by decide) ?_
        refine lv_iadd hx hb dL_law_806 ?_
        refine va_sld hx hb hX hbl hbA hS (law_ix (c := 3) rfl hL (by omega)) dL_law_807 ?_
        have h0fx := hW
        refine k_ia (va_runV (As := [.int (xs (nI (5 * k) + 1).toNatClampNeg), .int (xs (nI (5 * k) + 2).toNatClampNeg), .int (xs (nI (5 * k) + 3).toNatClampNeg)]) (rest := []) ⟨hx, hb, hml, hown, hts⟩ (c5_audit l (xs (nI (5 * k) + 1).toNatClampNeg) (xs (nI (5 * k) + 2).toNatClampNeg) (xs (nI (5 * k) + 3).toNatClampNeg) h5f) (cwV 3 hts gL_law_X5_audit rfl rfl rfl (by decide +kernel) ⟨(Nat.le_of_ble_eq_true rfl), (Nat.le_of_ble_eq_true rfl)⟩) (k_preV hW hK hN (hW.fx 5 rfl) (EE_5 cA ad S P M 0) rfl) rfl rfl hl.1 rfl (lv_room (Nat.le_of_ble_eq_true rfl)) dL_law_808 ⟨by show _ ≤ 600000; omega, by show _ ≤ 7302249; omega⟩) hS (fun H locs ad' hga hma hW hS => ?_)
        have ea5 : ad 5 0 = ad' 5 0 := (hga _ _ (h0fx.fx 5 rfl)).symm
        have ea6 : ad 6 0 = ad' 6 0 := (hga _ _ (h0fx.fx 6 rfl)).symm
        rw [ea5, ea6] at hl
        refine lv_aload_n hx hb dL_law_811 rfl (lv_at hl 2 rfl) ?_
        refine lv_aload_n hx hb dL_law_812 rfl (lv_at hl 0 rfl) ?_
        refine lv_iload_n hx hb dL_law_813 rfl (lv_at hl 3 rfl) ?_
        refine lv_iconst (v := 1) hx hb dL_law_814 (by decide) ?_
        refine lv_iadd hx hb dL_law_815 ?_
        refine va_sld hx hb hX hbl hbA hS (law_ix (c := 1) rfl hL (by omega)) dL_law_816 ?_
        refine lv_aload_n hx hb dL_law_817 rfl (lv_at hl 0 rfl) ?_
        refine lv_iload_n hx hb dL_law_818 rfl (lv_at hl 3 rfl) ?_
        refine lv_iconst (v := 2) hx hb dL_law_819 (by decide) ?_
        refine lv_iadd hx hb dL_law_820 ?_
        refine va_sld hx hb hX hbl hbA hS (law_ix (c := 2) rfl hL (by omega)) dL_law_821 ?_
        refine lv_aload_n hx hb dL_law_822 rfl (lv_at hl 0 rfl) ?_
        refine lv_iload_n hx hb dL_law_823 rfl (lv_at hl 3 rfl) ?_
        refine lv_iconst (v := 3) hx hb dL_law_824 (by decide) ?_
        refine lv_iadd hx hb dL_law_825 ?_
        refine va_sld hx hb hX hbl hbA hS (law_ix (c := 3) rfl hL (by omega)) dL_law_826 ?_
        refine k_i (va_runV (As := [.int (xs (nI (5 * k) + 1).toNatClampNeg), .int (xs (nI (5 * k) + 2).toNatClampNeg), .int (xs (nI (5 * k) + 3).toNatClampNeg)]) (rest := [.int v]) ⟨hx, hb, hml, hown, hts⟩ (c6_audit l (xs (nI (5 * k) + 1).toNatClampNeg) (xs (nI (5 * k) + 2).toNatClampNeg) (xs (nI (5 * k) + 3).toNatClampNeg) h6f) (cwV 3 hts gL_law_X6_audit rfl rfl rfl (by decide +kernel) ⟨(Nat.le_of_ble_eq_true rfl), (Nat.le_of_ble_eq_true rfl)⟩) (k_preV hW hK hN (hW.fx 6 rfl) (EE_6 cA ad' S' P' M 0) rfl) rfl rfl hl.1 rfl (lv_room (Nat.le_of_ble_eq_true rfl)) dL_law_827 ⟨by show _ ≤ 600000; omega, by show _ ≤ 7302249; omega⟩) hS (fun H locs hW hS => ?_)
        refine lv_icmp_eq (tgt := 835) hx hb dL_law_830 (by decide) (fun _ => ?_) (fun h => absurd rfl h)
        exact next S' P' N' M' ad' _ _ _ _ _ (by omega) (by omega) hI hW hS hl
      have hq0 := sw_ne hn0 (n := 0) (by decide)
      have hq1 := sw_ne hn1 (n := 1) (by decide)
      have hq2 := sw_ne hn2 (n := 2) (by decide)
      have hq3 := sw_ne hn3 (n := 3) (by decide)
      have hq4 := sw_ne hn4 (n := 4) (by decide)
      have hq5 := sw_ne hn5 (n := 5) (by decide)
      have hq6 := sw_ne hn6 (n := 6) (by decide)
      have hq7 := sw_ne hn7 (n := 7) (by decide)
      have hq8 := sw_ne hn8 (n := 8) (by decide)
      have hq9 := sw_ne hn9 (n := 9) (by decide)
      have hq10 := sw_ne hn10 (n := 10) (by decide)
      have hq11 := sw_ne hn11 (n := 11) (by decide)
      have hq12 := sw_ne hn12 (n := 12) (by decide)
      have hq13 := sw_ne hn13 (n := 13) (by decide)
      have hq14 := sw_ne hn14 (n := 14) (by decide)
      have hq15 := sw_ne hn15 (n := 15) (by decide)
      have hq16 := sw_ne hn16 (n := 16) (by decide)
      have hq17 := sw_ne hn17 (n := 17) (by decide)
      have hq18 := sw_ne hn18 (n := 18) (by decide)
      have hq19 := sw_ne hn19 (n := 19) (by decide)
      refine lv_tableOut (tgt := 835) hx hb dL_law_32 (by omega) (by decide) ?_
      exact next S P N M ad _ _ _ _ _ (by omega) (by omega) (hI0 _ _ _ _ _ hI) hW hS hl

