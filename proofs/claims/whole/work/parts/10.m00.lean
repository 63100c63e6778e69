-- 0 init
abbrev rm0_init : Room := { frames := 1, cells := 0, slots := 0, locals := 20 }
def f0_init (S : TS) (P : TP) (me : Nat) (a1 : Option Nat) (a2 : Int32) (a3 : Int32) : Option (TS × TP) :=
  lt (up3 P 0 me 0 a1) fun (P1 : TP) =>
  lt (up S 1 me a2) fun (S2 : TS) =>
  lt (up S2 2 me a3) fun (S3 : TS) =>
  some (S3, P1)
set_option maxRecDepth 20000 in
theorem hi0_init_0 : ∀ w ∈ u_ws RX0 TX0 3, w ∈ wsX0_init := by decide +kernel
set_option maxHeartbeats 4000000 in
set_option maxRecDepth 100000 in
theorem w0_init {p : Program} {l : Launch} {e : Env} {s : State} {m : MethodId} {args : Array Value} {below : List Frame} {meth : Method} {c : Code} (C : MC p s m args meth c cX0_init none 4 RX0 wsX0_init) {D : va_G} {cA : Nat → ClassId} {z : Nat} {ad : Nat → Nat → Nat} {N : TN} (hK : va_K D vwCl (tysW cA) s) (hN : NW s) {S : TS} {P : TP} {M : TS} (me : Nat) (a1 : Option Nat) (a2 : Int32) (a3 : Int32) (hme : me < N 0) (ha1 : ∀ y, a1 = some y → y < N 4) {S' : TS} {P' : TP} (hini : meth.name = "<init>") (hF : f0_init S P me a1 a2 a3 = some (S', P'))
    {H : Heap} {ls : Array Slot} (hW : Wd D cA z ad N S P M H) {locs : List Loc} (hS : va_S (fun q => z ≤ q) s.heap H locs) (hl : lv_has ls 4 [(0, .ref (ad 0 me)), (1, va_rf (a1.map (ad 4))), (2, .int a2), (3, .int a3)]) : W p l e rm0_init s m args below meth c H locs 0 0 (MQ below (Qv D cA z (ad, N, S', P', M)) args s 0 0 (fun q => z ≤ q)) (F0 m 0 ls []) := by
  obtain ⟨hx, hb, hr, hml, hown, hts, hlk⟩ := id C
  unfold f0_init at hF
  refine lv_aload_n hx hb dX0_init_0 rfl (lv_at hl 0 rfl) ?_
  refine W.objInit hx hb hown (hts (.methodLink RX0 3 objectInit) (by decide +kernel)) (hts (.instanceMethod objectInit) (by decide +kernel)) (hts (.code objectInit ⟨#[0xb1]⟩ 1 none) (by decide +kernel)) rfl (by rw [hml]; exact hl.1) rfl dX0_init_1 (Nat.le_of_ble_eq_true rfl) (Nat.le_of_ble_eq_true rfl) ?_
  refine W.eq (g2 := F0 m 4 ls []) rfl ?_
  refine lv_aload_n hx hb dX0_init_4 rfl (lv_at hl 0 rfl) ?_
  refine q_aload_n hx hb dX0_init_5 rfl (lv_at hl 1 rfl) ?_
  replace hF := lt_ex hF
  obtain ⟨P1, eP1, hF⟩ := hF
  refine p0_0 (r := a1) hx hb hts hi0_init_0 hown hK hW hS hme ha1 eP1 hini (hts (.fieldLink RX0 9 RX0 "altered" "LFerryTerminal$Ticket;") (by decide +kernel)) dX0_init_6 ?_
  clear hW hS; intro H locs hW hS
  refine lv_aload_n hx hb dX0_init_9 rfl (lv_at hl 0 rfl) ?_
  refine lv_iload_n hx hb dX0_init_10 rfl (lv_at hl 2 rfl) ?_
  replace hF := lt_ex hF
  obtain ⟨S2, eS2, hF⟩ := hF
  refine p0_1 hx hb hts hi0_init_0 hown hK hW hS hme eS2 hini (hts (.fieldLink RX0 15 RX0 "what" "I") (by decide +kernel)) dX0_init_11 ?_
  clear hW hS; intro H locs hW hS
  refine lv_aload_n hx hb dX0_init_14 rfl (lv_at hl 0 rfl) ?_
  refine lv_iload_n hx hb dX0_init_15 rfl (lv_at hl 3 rfl) ?_
  replace hF := lt_ex hF
  obtain ⟨S3, eS3, hF⟩ := hF
  refine p0_2 hx hb hts hi0_init_0 hown hK hW hS hme eS3 hini (hts (.fieldLink RX0 19 RX0 "mask" "I") (by decide +kernel)) dX0_init_16 ?_
  clear hW hS; intro H locs hW hS
  obtain ⟨hq1, hq2⟩ := Prod.mk.inj (Option.some.inj hF)
  subst hq1
  subst hq2
  exact e_v hx hb hr hlk hK hN hW hS dX0_init_19

set_option maxHeartbeats 4000000 in
set_option maxRecDepth 100000 in
theorem c0_init (l : Launch) {D : va_G} {cA : Nat → ClassId} {z : Nat} {ad : Nat → Nat → Nat} {N : TN} {S : TS} {P : TP} {M : TS} (me : Nat) (a1 : Option Nat) (a2 : Int32) (a3 : Int32) (hme : me < N 0) (ha1 : ∀ y, a1 = some y → y < N 4) {S' : TS} {P' : TP} (hF : f0_init S P me a1 a2 a3 = some (S', P')) : Met l yX0_init wsX0_init rm0_init (va_Pc [.ref (ad 0 me), va_rf (a1.map (ad 4)), .int a2, .int a3] (Wl D cA z (ad, N, S, P, M))) (Qv D cA z (ad, N, S', P', M)) 0 0 (fun q => z ≤ q) := by
  refine Met.ofW (cc := cX0_init) (maxL := 4) (ret := none) (by decide) rfl ?_
  intro p e s m args below meth c s₁ B hml hv
  obtain ⟨rfl, hW, hK, hN⟩ := hv
  have hini : meth.name = "<init>" := (name_of_methodNamed B.named B.method).1
  cases a1 with
  | none =>
    have hl := lv_entry ([.ref (ad 0 me), .null, .int a2, .int a3]) (n := 4) (Nat.le_of_ble_eq_true rfl)
    rw [lg_entry_eq]
    exact w0_init ⟨B.exec, B.bytes, B.returns, hml, findClass_of_methodNamed B.named, atoms_spec (ws := wsX0_init) B.pre, B.notSynchronized⟩ hK hN me none a2 a3 hme ha1 hini hF hW va_S.rf hl
  | some ya1 =>
    have hl := lv_entry ([.ref (ad 0 me), .ref (ad 4 ya1), .int a2, .int a3]) (n := 4) (Nat.le_of_ble_eq_true rfl)
    rw [lg_entry_eq]
    exact w0_init ⟨B.exec, B.bytes, B.returns, hml, findClass_of_methodNamed B.named, atoms_spec (ws := wsX0_init) B.pre, B.notSynchronized⟩ hK hN me (some ya1) a2 a3 hme ha1 hini hF hW va_S.rf hl

-- 4 tell
abbrev rm4_tell : Room := { frames := 0, cells := 0, slots := 0, locals := 0 }
def f4_tell (S : TS) (P : TP) (me : Nat) (a1 : Int32) : Option (Int32) :=
  if a1 = 0 then
  (lt (P 401 me 0) fun (r1 : Option Nat) =>
  r1.bind fun (t2 : Nat) =>
  some (S 200 t2))
  else
  (if a1 = 1 then
  (some (S 402 me))
  else
  (if a1 = 2 then
  (some (S 403 me))
  else
  (if a1 = 3 then
  (some (S 404 me))
  else
  (if a1 = 4 then
  (some (S 406 me))
  else
  (if a1 = 5 then
  (some (S 407 me))
  else
  (if a1 = 6 then
  (some (S 408 me))
  else
  (if a1 = 7 then
  (some (S 409 me))
  else
  (if a1 = 8 then
  (some (S 410 me))
  else
  (if a1 = 9 then
  (some (S 411 me))
  else
  (if a1 = 10 then
  (some (S 405 me))
  else
  (if a1 = 11 then
  (some (S 412 me))
  else
  (if a1 = 12 then
  (some (S 413 me))
  else
  (some (-1 : Int32))))))))))))))
set_option maxRecDepth 20000 in
theorem hi4_tell_2 : ∀ w ∈ u_ws RX2 TX2 9, w ∈ wsX4_tell := by decide +kernel
set_option maxRecDepth 20000 in
theorem hi4_tell_4 : ∀ w ∈ u_ws RX4 TX4 16, w ∈ wsX4_tell := by decide +kernel
set_option maxHeartbeats 4000000 in
set_option maxRecDepth 100000 in
theorem w4_tell {p : Program} {l : Launch} {e : Env} {s : State} {m : MethodId} {args : Array Value} {below : List Frame} {meth : Method} {c : Code} (C : MC p s m args meth c cX4_tell (some .int) 2 RX4 wsX4_tell) {D : va_G} {cA : Nat → ClassId} {z : Nat} {ad : Nat → Nat → Nat} {N : TN} (hK : va_K D vwCl (tysW cA) s) (hN : NW s) {S : TS} {P : TP} {M : TS} (me : Nat) (a1 : Int32) (hme : me < N 4) {v : Int32} (hF : f4_tell S P me a1 = some v)
    {H : Heap} {ls : Array Slot} (hW : Wd D cA z ad N S P M H) {locs : List Loc} (hS : va_S (fun q => z ≤ q) s.heap H locs) (hl : lv_has ls 2 [(0, .ref (ad 4 me)), (1, .int a1)]) : W p l e rm4_tell s m args below meth c H locs 0 0 (MQ below (Qi D cA z v (ad, N, S, P, M)) args s 0 0 (fun q => z ≤ q)) (F0 m 0 ls []) := by
  obtain ⟨hx, hb, hr, hml, hown, hts, hlk⟩ := id C
  unfold f4_tell at hF
  refine lv_iload_n hx hb dX4_tell_0 rfl (lv_at hl 1 rfl) ?_
  by_cases hn0 : a1 = 0
  · replace hF := it_t hF hn0
    refine lv_tableIn (off := 67) (tgt := 68) hx hb dX4_tell_1 (by rw [hn0]; decide) (by rw [hn0]; decide) (by rw [hn0]; rfl) (by decide) ?_
    refine lv_aload_n hx hb dX4_tell_68 rfl (lv_at hl 0 rfl) ?_
    replace hF := lt_ex hF
    obtain ⟨r1, er1, hF⟩ := hF
    have hr1 : ∀ y, r1 = some y → y < N 2 := hW.v er1
    refine g4_1 hx hb hts hi4_tell_4 hown hK hW hme er1 (hts (.fieldLink RX4 33 RX4 "trip" "LFerryTerminal$Sailing;") (by decide +kernel)) dX4_tell_69 ?_
    replace hF := ob hF
    obtain ⟨t2, et2, hF⟩ := hF
    subst et2
    have ht2 := hr1 t2 rfl
    refine gn2_0 hx hb hts hi4_tell_2 hown hK hW ht2 (nf_10 hN) dX4_tell_72 ?_
    have hq1 := Option.some.inj hF
    subst hq1
    exact e_i hx hb hr hlk hK hN hW hS dX4_tell_75
  · replace hF := it_f hF hn0
    by_cases hn1 : a1 = 1
    · replace hF := it_t hF hn1
      refine lv_tableIn (off := 75) (tgt := 76) hx hb dX4_tell_1 (by rw [hn1]; decide) (by rw [hn1]; decide) (by rw [hn1]; rfl) (by decide) ?_
      refine lv_aload_n hx hb dX4_tell_76 rfl (lv_at hl 0 rfl) ?_
      refine g4_2 hx hb hts hi4_tell_4 hown hK hW hme (hts (.fieldLink RX4 37 RX4 "length" "I") (by decide +kernel)) dX4_tell_77 ?_
      have hq1 := Option.some.inj hF
      subst hq1
      exact e_i hx hb hr hlk hK hN hW hS dX4_tell_80
    · replace hF := it_f hF hn1
      by_cases hn2 : a1 = 2
      · replace hF := it_t hF hn2
        refine lv_tableIn (off := 80) (tgt := 81) hx hb dX4_tell_1 (by rw [hn2]; decide) (by rw [hn2]; decide) (by rw [hn2]; rfl) (by decide) ?_
        refine lv_aload_n hx hb dX4_tell_81 rfl (lv_at hl 0 rfl) ?_
        refine g4_3 hx hb hts hi4_tell_4 hown hK hW hme (hts (.fieldLink RX4 40 RX4 "height" "I") (by decide +kernel)) dX4_tell_82 ?_
        have hq1 := Option.some.inj hF
        subst hq1
        exact e_i hx hb hr hlk hK hN hW hS dX4_tell_85
      · replace hF := it_f hF hn2
        by_cases hn3 : a1 = 3
        · replace hF := it_t hF hn3
          refine lv_tableIn (off := 85) (tgt := 86) hx hb dX4_tell_1 (by rw [hn3]; decide) (by rw [hn3]; decide) (by rw [hn3]; rfl) (by decide) ?_
          refine lv_aload_n hx hb dX4_tell_86 rfl (lv_at hl 0 rfl) ?_
          refine g4_4 hx hb hts hi4_tell_4 hown hK hW hme (hts (.fieldLink RX4 43 RX4 "wish" "I") (by decide +kernel)) dX4_tell_87 ?_
          have hq1 := Option.some.inj hF
          subst hq1
          exact e_i hx hb hr hlk hK hN hW hS dX4_tell_90
        · replace hF := it_f hF hn3
          by_cases hn4 : a1 = 4
          · replace hF := it_t hF hn4
            refine lv_tableIn (off := 90) (tgt := 91) hx hb dX4_tell_1 (by rw [hn4]; decide) (by rw [hn4]; decide) (by rw [hn4]; rfl) (by decide) ?_
            refine lv_aload_n hx hb dX4_tell_91 rfl (lv_at hl 0 rfl) ?_
            refine g4_6 hx hb hts hi4_tell_4 hown hK hW hme (hts (.fieldLink RX4 9 RX4 "how" "I") (by decide +kernel)) dX4_tell_92 ?_
            have hq1 := Option.some.inj hF
            subst hq1
            exact e_i hx hb hr hlk hK hN hW hS dX4_tell_95
          · replace hF := it_f hF hn4
            by_cases hn5 : a1 = 5
            · replace hF := it_t hF hn5
              refine lv_tableIn (off := 95) (tgt := 96) hx hb dX4_tell_1 (by rw [hn5]; decide) (by rw [hn5]; decide) (by rw [hn5]; rfl) (by decide) ?_
              refine lv_aload_n hx hb dX4_tell_96 rfl (lv_at hl 0 rfl) ?_
              refine g4_7 hx hb hts hi4_tell_4 hown hK hW hme (hts (.fieldLink RX4 15 RX4 "minute" "I") (by decide +kernel)) dX4_tell_97 ?_
              have hq1 := Option.some.inj hF
              subst hq1
              exact e_i hx hb hr hlk hK hN hW hS dX4_tell_100
            · replace hF := it_f hF hn5
              by_cases hn6 : a1 = 6
              · replace hF := it_t hF hn6
                refine lv_tableIn (off := 100) (tgt := 101) hx hb dX4_tell_1 (by rw [hn6]; decide) (by rw [hn6]; decide) (by rw [hn6]; rfl) (by decide) ?_
                refine lv_aload_n hx hb dX4_tell_101 rfl (lv_at hl 0 rfl) ?_
                refine g4_8 hx hb hts hi4_tell_4 hown hK hW hme (hts (.fieldLink RX4 18 RX4 "deck" "I") (by decide +kernel)) dX4_tell_102 ?_
                have hq1 := Option.some.inj hF
                subst hq1
                exact e_i hx hb hr hlk hK hN hW hS dX4_tell_105
              · replace hF := it_f hF hn6
                by_cases hn7 : a1 = 7
                · replace hF := it_t hF hn7
                  refine lv_tableIn (off := 105) (tgt := 106) hx hb dX4_tell_1 (by rw [hn7]; decide) (by rw [hn7]; decide) (by rw [hn7]; rfl) (by decide) ?_
                  refine lv_aload_n hx hb dX4_tell_106 rfl (lv_at hl 0 rfl) ?_
                  refine g4_9 hx hb hts hi4_tell_4 hown hK hW hme (hts (.fieldLink RX4 21 RX4 "lane" "I") (by decide +kernel)) dX4_tell_107 ?_
                  have hq1 := Option.some.inj hF
                  subst hq1
                  exact e_i hx hb hr hlk hK hN hW hS dX4_tell_110
                · replace hF := it_f hF hn7
                  by_cases hn8 : a1 = 8
                  · replace hF := it_t hF hn8
                    refine lv_tableIn (off := 110) (tgt := 111) hx hb dX4_tell_1 (by rw [hn8]; decide) (by rw [hn8]; decide) (by rw [hn8]; rfl) (by decide) ?_
                    refine lv_aload_n hx hb dX4_tell_111 rfl (lv_at hl 0 rfl) ?_
                    refine g4_10 hx hb hts hi4_tell_4 hown hK hW hme (hts (.fieldLink RX4 24 RX4 "place" "I") (by decide +kernel)) dX4_tell_112 ?_
                    have hq1 := Option.some.inj hF
                    subst hq1
                    exact e_i hx hb hr hlk hK hN hW hS dX4_tell_115
                  · replace hF := it_f hF hn8
                    by_cases hn9 : a1 = 9
                    · replace hF := it_t hF hn9
                      refine lv_tableIn (off := 115) (tgt := 116) hx hb dX4_tell_1 (by rw [hn9]; decide) (by rw [hn9]; decide) (by rw [hn9]; rfl) (by decide) ?_
                      refine lv_aload_n hx hb dX4_tell_116 rfl (lv_at hl 0 rfl) ?_
                      refine g4_11 hx hb hts hi4_tell_4 hown hK hW hme (hts (.fieldLink RX4 27 RX4 "cabin" "I") (by decide +kernel)) dX4_tell_117 ?_
                      have hq1 := Option.some.inj hF
                      subst hq1
                      exact e_i hx hb hr hlk hK hN hW hS dX4_tell_120
                    · replace hF := it_f hF hn9
                      by_cases hn10 : a1 = 10
                      · replace hF := it_t hF hn10
                        refine lv_tableIn (off := 120) (tgt := 121) hx hb dX4_tell_1 (by rw [hn10]; decide) (by rw [hn10]; decide) (by rw [hn10]; rfl) (by decide) ?_
                        refine lv_aload_n hx hb dX4_tell_121 rfl (lv_at hl 0 rfl) ?_
                        refine g4_5 hx hb hts hi4_tell_4 hown hK hW hme (hts (.fieldLink RX4 46 RX4 "paid" "I") (by decide +kernel)) dX4_tell_122 ?_
                        have hq1 := Option.some.inj hF
                        subst hq1
                        exact e_i hx hb hr hlk hK hN hW hS dX4_tell_125
                      · replace hF := it_f hF hn10
                        by_cases hn11 : a1 = 11
                        · replace hF := it_t hF hn11
                          refine lv_tableIn (off := 125) (tgt := 126) hx hb dX4_tell_1 (by rw [hn11]; decide) (by rw [hn11]; decide) (by rw [hn11]; rfl) (by decide) ?_
                          refine lv_aload_n hx hb dX4_tell_126 rfl (lv_at hl 0 rfl) ?_
                          refine g4_12 hx hb hts hi4_tell_4 hown hK hW hme (hts (.fieldLink RX4 57 RX4 "back" "I") (by decide +kernel)) dX4_tell_127 ?_
                          have hq1 := Option.some.inj hF
                          subst hq1
                          exact e_i hx hb hr hlk hK hN hW hS dX4_tell_130
                        · replace hF := it_f hF hn11
                          by_cases hn12 : a1 = 12
                          · replace hF := it_t hF hn12
                            refine lv_tableIn (off := 130) (tgt := 131) hx hb dX4_tell_1 (by rw [hn12]; decide) (by rw [hn12]; decide) (by rw [hn12]; rfl) (by decide) ?_
                            refine lv_aload_n hx hb dX4_tell_131 rfl (lv_at hl 0 rfl) ?_
                            refine g4_13 hx hb hts hi4_tell_4 hown hK hW hme (hts (.fieldLink RX4 60 RX4 "timesOn" "I") (by decide +kernel)) dX4_tell_132 ?_
                            have hq1 := Option.some.inj hF
                            subst hq1
                            exact e_i hx hb hr hlk hK hN hW hS dX4_tell_135
                          · replace hF := it_f hF hn12
                            have hq0 := sw_ne hn0 (n := 0) (by decide)
                            have hq1 := sw_ne hn1 (n := 1) (by decide)
                            have hq2 := sw_ne hn2 (n := 2) (by decide)
                            have hq3 := sw_ne hn3 (n := 3) (by decide)
                            have hq4 := sw_ne hn4 (n := 4) (by decide)
                            have hq5 := sw_ne hn5 (n := 5) (by decide)
                            have hq6 := sw_ne hn6 (n := 6) (by decide)
                            have hq7 := sw_ne hn7 (n := 7) (by decide)
                            have hq8 := sw_ne hn8 (n := 8) (by decide)
                            have hq9 := sw_ne hn9 (n := 9) (by decide)
                            have hq10 := sw_ne hn10 (n := 10) (by decide)
                            have hq11 := sw_ne hn11 (n := 11) (by decide)
                            have hq12 := sw_ne hn12 (n := 12) (by decide)
                            refine lv_tableOut (tgt := 136) hx hb dX4_tell_1 (by omega) (by decide) ?_
                            refine lv_iconst (v := (-1 : Int32)) hx hb dX4_tell_136 (by decide) ?_
                            have hq1 := Option.some.inj hF
                            subst hq1
                            exact e_i hx hb hr hlk hK hN hW hS dX4_tell_137

set_option maxHeartbeats 4000000 in
set_option maxRecDepth 100000 in
theorem c4_tell (l : Launch) {D : va_G} {cA : Nat → ClassId} {z : Nat} {ad : Nat → Nat → Nat} {N : TN} {S : TS} {P : TP} {M : TS} (me : Nat) (a1 : Int32) (hme : me < N 4) {v : Int32} (hF : f4_tell S P me a1 = some v) : Met l yX4_tell wsX4_tell rm4_tell (va_Pc [.ref (ad 4 me), .int a1] (Wl D cA z (ad, N, S, P, M))) (Qi D cA z v (ad, N, S, P, M)) 0 0 (fun q => z ≤ q) := by
  refine Met.ofW (cc := cX4_tell) (maxL := 2) (ret := (some .int)) (by decide) rfl ?_
  intro p e s m args below meth c s₁ B hml hv
  obtain ⟨rfl, hW, hK, hN⟩ := hv
  have hl := lv_entry ([.ref (ad 4 me), .int a1]) (n := 2) (Nat.le_of_ble_eq_true rfl)
  rw [lg_entry_eq]
  generalize (lg_sl ([.ref (ad 4 me), .int a1]) ++ List.replicate (2 - (lg_sl ([.ref (ad 4 me), .int a1])).length) Slot.unset).toArray = ls at hl ⊢
  exact w4_tell ⟨B.exec, B.bytes, B.returns, hml, findClass_of_methodNamed B.named, atoms_spec (ws := wsX4_tell) B.pre, B.notSynchronized⟩ hK hN me a1 hme hF hW va_S.rf hl

-- 0 number
abbrev rm0_number : Room := { frames := 1, cells := 0, slots := 0, locals := 21 }
def f0_number (S : TS) (P : TP) (me : Nat) (a1 : Nat) (a2 : Int32) : Option (Int32) :=
  (f4_tell S P a1 a2).bind fun (v1 : Int32) =>
  lt (P 0 me 0) fun (r3 : Option Nat) =>
  if (some a1) = r3 then
  (if a2 = (S 1 me) then
  (some (v1 ^^^ (S 2 me)))
  else
  (some v1))
  else
  (some v1)
set_option maxRecDepth 20000 in
theorem hi0_number_0 : ∀ w ∈ u_ws RX0 TX0 3, w ∈ wsX0_number := by decide +kernel
set_option maxHeartbeats 4000000 in
set_option maxRecDepth 100000 in
theorem w0_number {p : Program} {l : Launch} {e : Env} {s : State} {m : MethodId} {args : Array Value} {below : List Frame} {meth : Method} {c : Code} (C : MC p s m args meth c cX0_number (some .int) 4 RX0 wsX0_number) {D : va_G} {cA : Nat → ClassId} {z : Nat} {ad : Nat → Nat → Nat} {N : TN} (hK : va_K D vwCl (tysW cA) s) (hN : NW s) {S : TS} {P : TP} {M : TS} (me : Nat) (a1 : Nat) (a2 : Int32) (hme : me < N 0) (ha1 : a1 < N 4) {v : Int32} (hF : f0_number S P me a1 a2 = some v)
    {H : Heap} {ls : Array Slot} (hW : Wd D cA z ad N S P M H) {locs : List Loc} (hS : va_S (fun q => z ≤ q) s.heap H locs) (hl : lv_has ls 4 [(0, .ref (ad 0 me)), (1, .ref (ad 4 a1)), (2, .int a2)]) : W p l e rm0_number s m args below meth c H locs 0 0 (MQ below (Qi D cA z v (ad, N, S, P, M)) args s 0 0 (fun q => z ≤ q)) (F0 m 0 ls []) := by
  obtain ⟨hx, hb, hr, hml, hown, hts, hlk⟩ := id C
  unfold f0_number at hF
  refine lv_aload_n hx hb dX0_number_0 rfl (lv_at hl 1 rfl) ?_
  refine lv_iload_n hx hb dX0_number_1 rfl (lv_at hl 2 rfl) ?_
  replace hF := ob hF
  obtain ⟨v1, q2, hF⟩ := hF
  refine k_i (va_runVN (C := RX4) (As := [.int a2]) (rest := []) ⟨hx, hb, hml, hown, hts⟩ (c4_tell l a1 a2 ha1 q2) ⟨va_cnB 1 hts gX0_number_X4_tell_n22 rfl rfl rfl (nm_17 hN) (hts (.initialized RX4) (by decide +kernel)) (by decide +kernel) ⟨Nat.le_of_ble_eq_true rfl, Nat.le_of_ble_eq_true rfl⟩, hts (.instanceMethod yX4_tell) (by decide +kernel), hts (.selects RX4 yX4_tell yX4_tell) (by decide +kernel)⟩ (k_preV hW hK hN ha1 (EE_4 cA ad S P M a1) rfl) rfl rfl hl.1 rfl (lv_room (Nat.le_of_ble_eq_true rfl)) dX0_number_2 ⟨Nat.le_of_ble_eq_true rfl, Nat.le_of_ble_eq_true rfl⟩) hS ?_
  clear hW hS; intro H locs hW hS
  refine lv_istore_n (lv' := [(3, .int v1), (0, .ref (ad 0 me)), (1, .ref (ad 4 a1)), (2, .int a2)]) hx hb dX0_number_5 rfl hl (by decide) rfl ?_
  clear hl; intro ls hl
  refine lv_aload_n hx hb dX0_number_6 rfl (lv_at hl 2 rfl) ?_
  refine lv_aload_n hx hb dX0_number_7 rfl (lv_at hl 1 rfl) ?_
  replace hF := lt_ex hF
  obtain ⟨r3, er3, hF⟩ := hF
  have hr3 : ∀ y, r3 = some y → y < N 4 := hW.v er3
  refine g0_0 hx hb hts hi0_number_0 hown hK hW hme er3 (hts (.fieldLink RX0 9 RX0 "altered" "LFerryTerminal$Ticket;") (by decide +kernel)) dX0_number_8 ?_
  refine q_acmp_ne hx hb hW 4 (some a1) r3 (q_some ha1) hr3 (tgt := 31) dX0_number_11 (by decide) (fun hc => ?_) (fun hc => ?_)
  · replace hF := it_f hF hc
    refine lv_iload_n hx hb dX0_number_31 rfl (lv_at hl 0 rfl) ?_
    have hq1 := Option.some.inj hF
    subst hq1
    exact e_i hx hb hr hlk hK hN hW hS dX0_number_32
  · replace hF := it_t hF hc
    refine lv_iload_n hx hb dX0_number_14 rfl (lv_at hl 3 rfl) ?_
    refine lv_aload_n hx hb dX0_number_15 rfl (lv_at hl 1 rfl) ?_
    refine g0_1 hx hb hts hi0_number_0 hown hK hW hme (hts (.fieldLink RX0 15 RX0 "what" "I") (by decide +kernel)) dX0_number_16 ?_
    refine lv_icmp_ne (tgt := 31) hx hb dX0_number_19 (by decide) (fun hc => ?_) (fun hc => ?_)
    · replace hF := it_f hF hc
      refine lv_iload_n hx hb dX0_number_31 rfl (lv_at hl 0 rfl) ?_
      have hq1 := Option.some.inj hF
      subst hq1
      exact e_i hx hb hr hlk hK hN hW hS dX0_number_32
    · replace hF := it_t hF hc
      refine lv_iload_n hx hb dX0_number_22 rfl (lv_at hl 0 rfl) ?_
      refine lv_aload_n hx hb dX0_number_23 rfl (lv_at hl 1 rfl) ?_
      refine g0_2 hx hb hts hi0_number_0 hown hK hW hme (hts (.fieldLink RX0 19 RX0 "mask" "I") (by decide +kernel)) dX0_number_24 ?_
      refine lv_ixor hx hb dX0_number_27 ?_
      refine lv_goto (tgt := 32) hx hb dX0_number_28 (by decide) ?_
      have hq1 := Option.some.inj hF
      subst hq1
      exact e_i hx hb hr hlk hK hN hW hS dX0_number_32

set_option maxHeartbeats 4000000 in
set_option maxRecDepth 100000 in
theorem c0_number (l : Launch) {D : va_G} {cA : Nat → ClassId} {z : Nat} {ad : Nat → Nat → Nat} {N : TN} {S : TS} {P : TP} {M : TS} (me : Nat) (a1 : Nat) (a2 : Int32) (hme : me < N 0) (ha1 : a1 < N 4) {v : Int32} (hF : f0_number S P me a1 a2 = some v) : Met l yX0_number wsX0_number rm0_number (va_Pc [.ref (ad 0 me), .ref (ad 4 a1), .int a2] (Wl D cA z (ad, N, S, P, M))) (Qi D cA z v (ad, N, S, P, M)) 0 0 (fun q => z ≤ q) := by
  refine Met.ofW (cc := cX0_number) (maxL := 4) (ret := (some .int)) (by decide) rfl ?_
  intro p e s m args below meth c s₁ B hml hv
  obtain ⟨rfl, hW, hK, hN⟩ := hv
  have hl := lv_entry ([.ref (ad 0 me), .ref (ad 4 a1), .int a2]) (n := 4) (Nat.le_of_ble_eq_true rfl)
  rw [lg_entry_eq]
  generalize (lg_sl ([.ref (ad 0 me), .ref (ad 4 a1), .int a2]) ++ List.replicate (4 - (lg_sl ([.ref (ad 0 me), .ref (ad 4 a1), .int a2])).length) Slot.unset).toArray = ls at hl ⊢
  exact w0_number ⟨B.exec, B.bytes, B.returns, hml, findClass_of_methodNamed B.named, atoms_spec (ws := wsX0_number) B.pre, B.notSynchronized⟩ hK hN me a1 a2 hme ha1 hF hW va_S.rf hl

-- 0 mayHaveCabin
abbrev rm0_mayHaveCabin : Room := { frames := 2, cells := 0, slots := 0, locals := 44 }
def f0_mayHaveCabin (S : TS) (P : TP) (me : Nat) (a1 : Nat) : Option (Int32) :=
  (f0_number S P me a1 (4 : Int32)).bind fun (v1 : Int32) =>
  if v1 = (3 : Int32) then
  (some (1 : Int32))
  else
  (if v1 = (6 : Int32) then
  (some (1 : Int32))
  else
  (some (0 : Int32)))
set_option maxHeartbeats 4000000 in
set_option maxRecDepth 100000 in
theorem w0_mayHaveCabin {p : Program} {l : Launch} {e : Env} {s : State} {m : MethodId} {args : Array Value} {below : List Frame} {meth : Method} {c : Code} (C : MC p s m args meth c cX0_mayHaveCabin (some .boolean) 3 RX0 wsX0_mayHaveCabin) {D : va_G} {cA : Nat → ClassId} {z : Nat} {ad : Nat → Nat → Nat} {N : TN} (hK : va_K D vwCl (tysW cA) s) (hN : NW s) {S : TS} {P : TP} {M : TS} (me : Nat) (a1 : Nat) (hme : me < N 0) (ha1 : a1 < N 4) {v : Int32} (hF : f0_mayHaveCabin S P me a1 = some v)
    {H : Heap} {ls : Array Slot} (hW : Wd D cA z ad N S P M H) {locs : List Loc} (hS : va_S (fun q => z ≤ q) s.heap H locs) (hl : lv_has ls 3 [(0, .ref (ad 0 me)), (1, .ref (ad 4 a1))]) : W p l e rm0_mayHaveCabin s m args below meth c H locs 0 0 (MQ below (Qi D cA z v (ad, N, S, P, M)) args s 0 0 (fun q => z ≤ q)) (F0 m 0 ls []) := by
  obtain ⟨hx, hb, hr, hml, hown, hts, hlk⟩ := id C
  unfold f0_mayHaveCabin at hF
  refine lv_aload_n hx hb dX0_mayHaveCabin_0 rfl (lv_at hl 0 rfl) ?_
  refine lv_aload_n hx hb dX0_mayHaveCabin_1 rfl (lv_at hl 1 rfl) ?_
  refine lv_iconst (v := (4 : Int32)) hx hb dX0_mayHaveCabin_2 (by decide) ?_
  replace hF := ob hF
  obtain ⟨v1, q2, hF⟩ := hF
  refine k_i (va_runV (As := [.ref (ad 4 a1), .int (4 : Int32)]) (rest := []) ⟨hx, hb, hml, hown, hts⟩ (c0_number l me a1 (4 : Int32) hme ha1 q2) (cwV 2 hts gX0_mayHaveCabin_X0_number rfl rfl rfl (by decide +kernel) ⟨Nat.le_of_ble_eq_true rfl, Nat.le_of_ble_eq_true rfl⟩) (k_preV hW hK hN hme (EE_0 cA ad S P M me) rfl) rfl rfl hl.1 rfl (lv_room (Nat.le_of_ble_eq_true rfl)) dX0_mayHaveCabin_3 ⟨Nat.le_of_ble_eq_true rfl, Nat.le_of_ble_eq_true rfl⟩) hS ?_
  clear hW hS; intro H locs hW hS
  refine lv_istore_n (lv' := [(2, .int v1), (0, .ref (ad 0 me)), (1, .ref (ad 4 a1))]) hx hb dX0_mayHaveCabin_6 rfl hl (by decide) rfl ?_
  clear hl; intro ls hl
  refine lv_iload_n hx hb dX0_mayHaveCabin_7 rfl (lv_at hl 0 rfl) ?_
  refine lv_iconst (v := (3 : Int32)) hx hb dX0_mayHaveCabin_8 (by decide) ?_
  refine lv_icmp_eq (tgt := 18) hx hb dX0_mayHaveCabin_9 (by decide) (fun hc => ?_) (fun hc => ?_)
  · replace hF := it_t hF hc
    refine lv_iconst (v := (1 : Int32)) hx hb dX0_mayHaveCabin_18 (by decide) ?_
    refine lv_goto (tgt := 23) hx hb dX0_mayHaveCabin_19 (by decide) ?_
    have hq1 := Option.some.inj hF
    subst hq1
    exact e_z hx hb hr hlk hK hN hW hS (by decide) dX0_mayHaveCabin_23
  · replace hF := it_f hF hc
    refine lv_iload_n hx hb dX0_mayHaveCabin_12 rfl (lv_at hl 0 rfl) ?_
    refine lv_bipush (v := (6 : Int32)) hx hb dX0_mayHaveCabin_13 (by decide) ?_
    refine lv_icmp_ne (tgt := 22) hx hb dX0_mayHaveCabin_15 (by decide) (fun hc => ?_) (fun hc => ?_)
    · replace hF := it_f hF hc
      refine lv_iconst (v := (0 : Int32)) hx hb dX0_mayHaveCabin_22 (by decide) ?_
      have hq1 := Option.some.inj hF
      subst hq1
      exact e_z hx hb hr hlk hK hN hW hS (by decide) dX0_mayHaveCabin_23
    · replace hF := it_t hF hc
      refine lv_iconst (v := (1 : Int32)) hx hb dX0_mayHaveCabin_18 (by decide) ?_
      refine lv_goto (tgt := 23) hx hb dX0_mayHaveCabin_19 (by decide) ?_
      have hq1 := Option.some.inj hF
      subst hq1
      exact e_z hx hb hr hlk hK hN hW hS (by decide) dX0_mayHaveCabin_23

set_option maxHeartbeats 4000000 in
set_option maxRecDepth 100000 in
theorem c0_mayHaveCabin (l : Launch) {D : va_G} {cA : Nat → ClassId} {z : Nat} {ad : Nat → Nat → Nat} {N : TN} {S : TS} {P : TP} {M : TS} (me : Nat) (a1 : Nat) (hme : me < N 0) (ha1 : a1 < N 4) {v : Int32} (hF : f0_mayHaveCabin S P me a1 = some v) : Met l yX0_mayHaveCabin wsX0_mayHaveCabin rm0_mayHaveCabin (va_Pc [.ref (ad 0 me), .ref (ad 4 a1)] (Wl D cA z (ad, N, S, P, M))) (Qi D cA z v (ad, N, S, P, M)) 0 0 (fun q => z ≤ q) := by
  refine Met.ofW (cc := cX0_mayHaveCabin) (maxL := 3) (ret := (some .boolean)) (by decide) rfl ?_
  intro p e s m args below meth c s₁ B hml hv
  obtain ⟨rfl, hW, hK, hN⟩ := hv
  have hl := lv_entry ([.ref (ad 0 me), .ref (ad 4 a1)]) (n := 3) (Nat.le_of_ble_eq_true rfl)
  rw [lg_entry_eq]
  generalize (lg_sl ([.ref (ad 0 me), .ref (ad 4 a1)]) ++ List.replicate (3 - (lg_sl ([.ref (ad 0 me), .ref (ad 4 a1)])).length) Slot.unset).toArray = ls at hl ⊢
  exact w0_mayHaveCabin ⟨B.exec, B.bytes, B.returns, hml, findClass_of_methodNamed B.named, atoms_spec (ws := wsX0_mayHaveCabin) B.pre, B.notSynchronized⟩ hK hN me a1 hme ha1 hF hW va_S.rf hl

-- 1 init
abbrev rm1_init : Room := { frames := 1, cells := 0, slots := 0, locals := 20 }
def f1_init (S : TS) (P : TP) (me : Nat) (a1 : Nat) (a2 : Int32) : Option (TS × TP) :=
  lt (up3 P 100 me 0 (some a1)) fun (P1 : TP) =>
  lt (up S 101 me a2) fun (S2 : TS) =>
  some (S2, P1)
set_option maxRecDepth 20000 in
theorem hi1_init_1 : ∀ w ∈ u_ws RX1 TX1 3, w ∈ wsX1_init := by decide +kernel
set_option maxHeartbeats 4000000 in
set_option maxRecDepth 100000 in
theorem w1_init {p : Program} {l : Launch} {e : Env} {s : State} {m : MethodId} {args : Array Value} {below : List Frame} {meth : Method} {c : Code} (C : MC p s m args meth c cX1_init none 3 RX1 wsX1_init) {D : va_G} {cA : Nat → ClassId} {z : Nat} {ad : Nat → Nat → Nat} {N : TN} (hK : va_K D vwCl (tysW cA) s) (hN : NW s) {S : TS} {P : TP} {M : TS} (me : Nat) (a1 : Nat) (a2 : Int32) (hme : me < N 1) (ha1 : a1 < N 3) {S' : TS} {P' : TP} (hini : meth.name = "<init>") (hF : f1_init S P me a1 a2 = some (S', P'))
    {H : Heap} {ls : Array Slot} (hW : Wd D cA z ad N S P M H) {locs : List Loc} (hS : va_S (fun q => z ≤ q) s.heap H locs) (hl : lv_has ls 3 [(0, .ref (ad 1 me)), (1, .ref (ad 3 a1)), (2, .int a2)]) : W p l e rm1_init s m args below meth c H locs 0 0 (MQ below (Qv D cA z (ad, N, S', P', M)) args s 0 0 (fun q => z ≤ q)) (F0 m 0 ls []) := by
  obtain ⟨hx, hb, hr, hml, hown, hts, hlk⟩ := id C
  unfold f1_init at hF
  refine lv_aload_n hx hb dX1_init_0 rfl (lv_at hl 0 rfl) ?_
  refine W.objInit hx hb hown (hts (.methodLink RX1 1 objectInit) (by decide +kernel)) (hts (.instanceMethod objectInit) (by decide +kernel)) (hts (.code objectInit ⟨#[0xb1]⟩ 1 none) (by decide +kernel)) rfl (by rw [hml]; exact hl.1) rfl dX1_init_1 (Nat.le_of_ble_eq_true rfl) (Nat.le_of_ble_eq_true rfl) ?_
  refine W.eq (g2 := F0 m 4 ls []) rfl ?_
  refine lv_aload_n hx hb dX1_init_4 rfl (lv_at hl 0 rfl) ?_
  refine lv_aload_n hx hb dX1_init_5 rfl (lv_at hl 1 rfl) ?_
  replace hF := lt_ex hF
  obtain ⟨P1, eP1, hF⟩ := hF
  refine p1_0 (r := (some a1)) hx hb hts hi1_init_1 hown hK hW hS hme (q_some ha1) eP1 hini (hts (.fieldLink RX1 7 RX1 "vessel" "LFerryTerminal$Ship;") (by decide +kernel)) dX1_init_6 ?_
  clear hW hS; intro H locs hW hS
  refine lv_aload_n hx hb dX1_init_9 rfl (lv_at hl 0 rfl) ?_
  refine lv_iload_n hx hb dX1_init_10 rfl (lv_at hl 2 rfl) ?_
  replace hF := lt_ex hF
  obtain ⟨S2, eS2, hF⟩ := hF
  refine p1_1 hx hb hts hi1_init_1 hown hK hW hS hme eS2 hini (hts (.fieldLink RX1 13 RX1 "beds" "I") (by decide +kernel)) dX1_init_11 ?_
  clear hW hS; intro H locs hW hS
  obtain ⟨hq1, hq2⟩ := Prod.mk.inj (Option.some.inj hF)
  subst hq1
  subst hq2
  exact e_v hx hb hr hlk hK hN hW hS dX1_init_14

set_option maxHeartbeats 4000000 in
set_option maxRecDepth 100000 in
theorem c1_init (l : Launch) {D : va_G} {cA : Nat → ClassId} {z : Nat} {ad : Nat → Nat → Nat} {N : TN} {S : TS} {P : TP} {M : TS} (me : Nat) (a1 : Nat) (a2 : Int32) (hme : me < N 1) (ha1 : a1 < N 3) {S' : TS} {P' : TP} (hF : f1_init S P me a1 a2 = some (S', P')) : Met l yX1_init wsX1_init rm1_init (va_Pc [.ref (ad 1 me), .ref (ad 3 a1), .int a2] (Wl D cA z (ad, N, S, P, M))) (Qv D cA z (ad, N, S', P', M)) 0 0 (fun q => z ≤ q) := by
  refine Met.ofW (cc := cX1_init) (maxL := 3) (ret := none) (by decide) rfl ?_
  intro p e s m args below meth c s₁ B hml hv
  obtain ⟨rfl, hW, hK, hN⟩ := hv
  have hl := lv_entry ([.ref (ad 1 me), .ref (ad 3 a1), .int a2]) (n := 3) (Nat.le_of_ble_eq_true rfl)
  rw [lg_entry_eq]
  generalize (lg_sl ([.ref (ad 1 me), .ref (ad 3 a1), .int a2]) ++ List.replicate (3 - (lg_sl ([.ref (ad 1 me), .ref (ad 3 a1), .int a2])).length) Slot.unset).toArray = ls at hl ⊢
  have hini : meth.name = "<init>" := (name_of_methodNamed B.named B.method).1
  exact w1_init ⟨B.exec, B.bytes, B.returns, hml, findClass_of_methodNamed B.named, atoms_spec (ws := wsX1_init) B.pre, B.notSynchronized⟩ hK hN me a1 a2 hme ha1 hini hF hW va_S.rf hl

-- 2 init
abbrev rm2_init : Room := { frames := 1, cells := 0, slots := 0, locals := 20 }
def f2_init (S : TS) (P : TP) (me : Nat) (a1 : Int32) (a2 : Nat) (a3 : Int32) (a4 : Int32) : Option (TS × TP) :=
  lt (up S 204 me (0 : Int32)) fun (S1 : TS) =>
  lt (up S1 206 me (-1 : Int32)) fun (S2 : TS) =>
  lt (up S2 200 me a1) fun (S3 : TS) =>
  lt (up3 P 201 me 0 (some a2)) fun (P4 : TP) =>
  lt (up S3 202 me a3) fun (S5 : TS) =>
  lt (up S5 203 me a4) fun (S6 : TS) =>
  some (S6, P4)
set_option maxRecDepth 20000 in
theorem hi2_init_2 : ∀ w ∈ u_ws RX2 TX2 9, w ∈ wsX2_init := by decide +kernel
set_option maxHeartbeats 4000000 in
set_option maxRecDepth 100000 in
theorem w2_init {p : Program} {l : Launch} {e : Env} {s : State} {m : MethodId} {args : Array Value} {below : List Frame} {meth : Method} {c : Code} (C : MC p s m args meth c cX2_init none 5 RX2 wsX2_init) {D : va_G} {cA : Nat → ClassId} {z : Nat} {ad : Nat → Nat → Nat} {N : TN} (hK : va_K D vwCl (tysW cA) s) (hN : NW s) {S : TS} {P : TP} {M : TS} (me : Nat) (a1 : Int32) (a2 : Nat) (a3 : Int32) (a4 : Int32) (hme : me < N 2) (ha2 : a2 < N 3) {S' : TS} {P' : TP} (hini : meth.name = "<init>") (hF : f2_init S P me a1 a2 a3 a4 = some (S', P'))
    {H : Heap} {ls : Array Slot} (hW : Wd D cA z ad N S P M H) {locs : List Loc} (hS : va_S (fun q => z ≤ q) s.heap H locs) (hl : lv_has ls 5 [(0, .ref (ad 2 me)), (1, .int a1), (2, .ref (ad 3 a2)), (3, .int a3), (4, .int a4)]) : W p l e rm2_init s m args below meth c H locs 0 0 (MQ below (Qv D cA z (ad, N, S', P', M)) args s 0 0 (fun q => z ≤ q)) (F0 m 0 ls []) := by
  obtain ⟨hx, hb, hr, hml, hown, hts, hlk⟩ := id C
  unfold f2_init at hF
  refine lv_aload_n hx hb dX2_init_0 rfl (lv_at hl 0 rfl) ?_
  refine W.objInit hx hb hown (hts (.methodLink RX2 3 objectInit) (by decide +kernel)) (hts (.instanceMethod objectInit) (by decide +kernel)) (hts (.code objectInit ⟨#[0xb1]⟩ 1 none) (by decide +kernel)) rfl (by rw [hml]; exact hl.1) rfl dX2_init_1 (Nat.le_of_ble_eq_true rfl) (Nat.le_of_ble_eq_true rfl) ?_
  refine W.eq (g2 := F0 m 4 ls []) rfl ?_
  refine lv_aload_n hx hb dX2_init_4 rfl (lv_at hl 0 rfl) ?_
  refine lv_iconst (v := (0 : Int32)) hx hb dX2_init_5 (by decide) ?_
  replace hF := lt_ex hF
  obtain ⟨S1, eS1, hF⟩ := hF
  refine p2_4 hx hb hts hi2_init_2 hown hK hW hS hme eS1 (hts (.fieldLink RX2 9 RX2 "how" "I") (by decide +kernel)) dX2_init_6 ?_
  clear hW hS; intro H locs hW hS
  refine lv_aload_n hx hb dX2_init_9 rfl (lv_at hl 0 rfl) ?_
  refine lv_iconst (v := (-1 : Int32)) hx hb dX2_init_10 (by decide) ?_
  replace hF := lt_ex hF
  obtain ⟨S2, eS2, hF⟩ := hF
  refine p2_6 hx hb hts hi2_init_2 hown hK hW hS hme eS2 (hts (.fieldLink RX2 15 RX2 "recallIn" "I") (by decide +kernel)) dX2_init_11 ?_
  clear hW hS; intro H locs hW hS
  refine lv_aload_n hx hb dX2_init_14 rfl (lv_at hl 0 rfl) ?_
  refine lv_iload_n hx hb dX2_init_15 rfl (lv_at hl 1 rfl) ?_
  replace hF := lt_ex hF
  obtain ⟨S3, eS3, hF⟩ := hF
  refine p2_0 hx hb hts hi2_init_2 hown hK hW hS hme eS3 hini (hts (.fieldLink RX2 18 RX2 "number" "I") (by decide +kernel)) dX2_init_16 ?_
  clear hW hS; intro H locs hW hS
  refine lv_aload_n hx hb dX2_init_19 rfl (lv_at hl 0 rfl) ?_
  refine lv_aload_n hx hb dX2_init_20 rfl (lv_at hl 2 rfl) ?_
  replace hF := lt_ex hF
  obtain ⟨P4, eP4, hF⟩ := hF
  refine p2_1 (r := (some a2)) hx hb hts hi2_init_2 hown hK hW hS hme (q_some ha2) eP4 hini (hts (.fieldLink RX2 21 RX2 "vessel" "LFerryTerminal$Ship;") (by decide +kernel)) dX2_init_21 ?_
  clear hW hS; intro H locs hW hS
  refine lv_aload_n hx hb dX2_init_24 rfl (lv_at hl 0 rfl) ?_
  refine lv_iload_n hx hb dX2_init_25 rfl (lv_at hl 3 rfl) ?_
  replace hF := lt_ex hF
  obtain ⟨S5, eS5, hF⟩ := hF
  refine p2_2 hx hb hts hi2_init_2 hown hK hW hS hme eS5 hini (hts (.fieldLink RX2 25 RX2 "minute" "I") (by decide +kernel)) dX2_init_26 ?_
  clear hW hS; intro H locs hW hS
  refine lv_aload_n hx hb dX2_init_29 rfl (lv_at hl 0 rfl) ?_
  refine lv_iload hx hb dX2_init_30 (lv_at hl 4 rfl) ?_
  replace hF := lt_ex hF
  obtain ⟨S6, eS6, hF⟩ := hF
  refine p2_3 hx hb hts hi2_init_2 hown hK hW hS hme eS6 hini (hts (.fieldLink RX2 28 RX2 "line" "I") (by decide +kernel)) dX2_init_32 ?_
  clear hW hS; intro H locs hW hS
  obtain ⟨hq1, hq2⟩ := Prod.mk.inj (Option.some.inj hF)
  subst hq1
  subst hq2
  exact e_v hx hb hr hlk hK hN hW hS dX2_init_35

set_option maxHeartbeats 4000000 in
set_option maxRecDepth 100000 in
theorem c2_init (l : Launch) {D : va_G} {cA : Nat → ClassId} {z : Nat} {ad : Nat → Nat → Nat} {N : TN} {S : TS} {P : TP} {M : TS} (me : Nat) (a1 : Int32) (a2 : Nat) (a3 : Int32) (a4 : Int32) (hme : me < N 2) (ha2 : a2 < N 3) {S' : TS} {P' : TP} (hF : f2_init S P me a1 a2 a3 a4 = some (S', P')) : Met l yX2_init wsX2_init rm2_init (va_Pc [.ref (ad 2 me), .int a1, .ref (ad 3 a2), .int a3, .int a4] (Wl D cA z (ad, N, S, P, M))) (Qv D cA z (ad, N, S', P', M)) 0 0 (fun q => z ≤ q) := by
  refine Met.ofW (cc := cX2_init) (maxL := 5) (ret := none) (by decide) rfl ?_
  intro p e s m args below meth c s₁ B hml hv
  obtain ⟨rfl, hW, hK, hN⟩ := hv
  have hl := lv_entry ([.ref (ad 2 me), .int a1, .ref (ad 3 a2), .int a3, .int a4]) (n := 5) (Nat.le_of_ble_eq_true rfl)
  rw [lg_entry_eq]
  generalize (lg_sl ([.ref (ad 2 me), .int a1, .ref (ad 3 a2), .int a3, .int a4]) ++ List.replicate (5 - (lg_sl ([.ref (ad 2 me), .int a1, .ref (ad 3 a2), .int a3, .int a4])).length) Slot.unset).toArray = ls at hl ⊢
  have hini : meth.name = "<init>" := (name_of_methodNamed B.named B.method).1
  exact w2_init ⟨B.exec, B.bytes, B.returns, hml, findClass_of_methodNamed B.named, atoms_spec (ws := wsX2_init) B.pre, B.notSynchronized⟩ hK hN me a1 a2 a3 a4 hme ha2 hini hF hW va_S.rf hl

-- 2 isPlannedOrOpen
abbrev rm2_isPlannedOrOpen : Room := { frames := 0, cells := 0, slots := 0, locals := 0 }
def f2_isPlannedOrOpen (S : TS) (P : TP) (me : Nat) : Option (Int32) :=
  if (S 204 me) = 0 then
  (some (1 : Int32))
  else
  (if (S 204 me) = (1 : Int32) then
  (some (1 : Int32))
  else
  (some (0 : Int32)))
set_option maxRecDepth 20000 in
theorem hi2_isPlannedOrOpen_2 : ∀ w ∈ u_ws RX2 TX2 9, w ∈ wsX2_isPlannedOrOpen := by decide +kernel
set_option maxHeartbeats 4000000 in
set_option maxRecDepth 100000 in
theorem w2_isPlannedOrOpen {p : Program} {l : Launch} {e : Env} {s : State} {m : MethodId} {args : Array Value} {below : List Frame} {meth : Method} {c : Code} (C : MC p s m args meth c cX2_isPlannedOrOpen (some .boolean) 1 RX2 wsX2_isPlannedOrOpen) {D : va_G} {cA : Nat → ClassId} {z : Nat} {ad : Nat → Nat → Nat} {N : TN} (hK : va_K D vwCl (tysW cA) s) (hN : NW s) {S : TS} {P : TP} {M : TS} (me : Nat) (hme : me < N 2) {v : Int32} (hF : f2_isPlannedOrOpen S P me = some v)
    {H : Heap} {ls : Array Slot} (hW : Wd D cA z ad N S P M H) {locs : List Loc} (hS : va_S (fun q => z ≤ q) s.heap H locs) (hl : lv_has ls 1 [(0, .ref (ad 2 me))]) : W p l e rm2_isPlannedOrOpen s m args below meth c H locs 0 0 (MQ below (Qi D cA z v (ad, N, S, P, M)) args s 0 0 (fun q => z ≤ q)) (F0 m 0 ls []) := by
  obtain ⟨hx, hb, hr, hml, hown, hts, hlk⟩ := id C
  unfold f2_isPlannedOrOpen at hF
  refine lv_aload_n hx hb dX2_isPlannedOrOpen_0 rfl (lv_at hl 0 rfl) ?_
  refine g2_4 hx hb hts hi2_isPlannedOrOpen_2 hown hK hW hme (hts (.fieldLink RX2 9 RX2 "how" "I") (by decide +kernel)) dX2_isPlannedOrOpen_1 ?_
  refine lv_if_eq (tgt := 15) hx hb dX2_isPlannedOrOpen_4 (by decide) (fun hc => ?_) (fun hc => ?_)
  · replace hF := it_t hF hc
    refine lv_iconst (v := (1 : Int32)) hx hb dX2_isPlannedOrOpen_15 (by decide) ?_
    refine lv_goto (tgt := 20) hx hb dX2_isPlannedOrOpen_16 (by decide) ?_
    have hq1 := Option.some.inj hF
    subst hq1
    exact e_z hx hb hr hlk hK hN hW hS (by decide) dX2_isPlannedOrOpen_20
  · replace hF := it_f hF hc
    refine lv_aload_n hx hb dX2_isPlannedOrOpen_7 rfl (lv_at hl 0 rfl) ?_
    refine g2_4 hx hb hts hi2_isPlannedOrOpen_2 hown hK hW hme (hts (.fieldLink RX2 9 RX2 "how" "I") (by decide +kernel)) dX2_isPlannedOrOpen_8 ?_
    refine lv_iconst (v := (1 : Int32)) hx hb dX2_isPlannedOrOpen_11 (by decide) ?_
    refine lv_icmp_ne (tgt := 19) hx hb dX2_isPlannedOrOpen_12 (by decide) (fun hc => ?_) (fun hc => ?_)
    · replace hF := it_f hF hc
      refine lv_iconst (v := (0 : Int32)) hx hb dX2_isPlannedOrOpen_19 (by decide) ?_
      have hq1 := Option.some.inj hF
      subst hq1
      exact e_z hx hb hr hlk hK hN hW hS (by decide) dX2_isPlannedOrOpen_20
    · replace hF := it_t hF hc
      refine lv_iconst (v := (1 : Int32)) hx hb dX2_isPlannedOrOpen_15 (by decide) ?_
      refine lv_goto (tgt := 20) hx hb dX2_isPlannedOrOpen_16 (by decide) ?_
      have hq1 := Option.some.inj hF
      subst hq1
      exact e_z hx hb hr hlk hK hN hW hS (by decide) dX2_isPlannedOrOpen_20

set_option maxHeartbeats 4000000 in
set_option maxRecDepth 100000 in
theorem c2_isPlannedOrOpen (l : Launch) {D : va_G} {cA : Nat → ClassId} {z : Nat} {ad : Nat → Nat → Nat} {N : TN} {S : TS} {P : TP} {M : TS} (me : Nat) (hme : me < N 2) {v : Int32} (hF : f2_isPlannedOrOpen S P me = some v) : Met l yX2_isPlannedOrOpen wsX2_isPlannedOrOpen rm2_isPlannedOrOpen (va_Pc [.ref (ad 2 me)] (Wl D cA z (ad, N, S, P, M))) (Qi D cA z v (ad, N, S, P, M)) 0 0 (fun q => z ≤ q) := by
  refine Met.ofW (cc := cX2_isPlannedOrOpen) (maxL := 1) (ret := (some .boolean)) (by decide) rfl ?_
  intro p e s m args below meth c s₁ B hml hv
  obtain ⟨rfl, hW, hK, hN⟩ := hv
  have hl := lv_entry ([.ref (ad 2 me)]) (n := 1) (Nat.le_of_ble_eq_true rfl)
  rw [lg_entry_eq]
  generalize (lg_sl ([.ref (ad 2 me)]) ++ List.replicate (1 - (lg_sl ([.ref (ad 2 me)])).length) Slot.unset).toArray = ls at hl ⊢
  exact w2_isPlannedOrOpen ⟨B.exec, B.bytes, B.returns, hml, findClass_of_methodNamed B.named, atoms_spec (ws := wsX2_isPlannedOrOpen) B.pre, B.notSynchronized⟩ hK hN me hme hF hW va_S.rf hl

-- 2 takesTickets
abbrev rm2_takesTickets : Room := { frames := 1, cells := 0, slots := 0, locals := 20 }
def f2_takesTickets (S : TS) (P : TP) (me : Nat) : Option (Int32) :=
  (f2_isPlannedOrOpen S P me).bind fun (v1 : Int32) =>
  if v1 = 0 then
  (some (0 : Int32))
  else
  (if (S 206 me) = (-1 : Int32) then
  (some (1 : Int32))
  else
  (some (0 : Int32)))
set_option maxRecDepth 20000 in
theorem hi2_takesTickets_2 : ∀ w ∈ u_ws RX2 TX2 9, w ∈ wsX2_takesTickets := by decide +kernel
set_option maxHeartbeats 4000000 in
set_option maxRecDepth 100000 in
theorem w2_takesTickets {p : Program} {l : Launch} {e : Env} {s : State} {m : MethodId} {args : Array Value} {below : List Frame} {meth : Method} {c : Code} (C : MC p s m args meth c cX2_takesTickets (some .boolean) 1 RX2 wsX2_takesTickets) {D : va_G} {cA : Nat → ClassId} {z : Nat} {ad : Nat → Nat → Nat} {N : TN} (hK : va_K D vwCl (tysW cA) s) (hN : NW s) {S : TS} {P : TP} {M : TS} (me : Nat) (hme : me < N 2) {v : Int32} (hF : f2_takesTickets S P me = some v)
    {H : Heap} {ls : Array Slot} (hW : Wd D cA z ad N S P M H) {locs : List Loc} (hS : va_S (fun q => z ≤ q) s.heap H locs) (hl : lv_has ls 1 [(0, .ref (ad 2 me))]) : W p l e rm2_takesTickets s m args below meth c H locs 0 0 (MQ below (Qi D cA z v (ad, N, S, P, M)) args s 0 0 (fun q => z ≤ q)) (F0 m 0 ls []) := by
  obtain ⟨hx, hb, hr, hml, hown, hts, hlk⟩ := id C
  unfold f2_takesTickets at hF
  refine lv_aload_n hx hb dX2_takesTickets_0 rfl (lv_at hl 0 rfl) ?_
  replace hF := ob hF
  obtain ⟨v1, q2, hF⟩ := hF
  refine k_i (va_runV (As := []) (rest := []) ⟨hx, hb, hml, hown, hts⟩ (c2_isPlannedOrOpen l me hme q2) (cwV 0 hts gX2_takesTickets_X2_isPlannedOrOpen rfl rfl rfl (by decide +kernel) ⟨Nat.le_of_ble_eq_true rfl, Nat.le_of_ble_eq_true rfl⟩) (k_preV hW hK hN hme (EE_2 cA ad S P M me) rfl) rfl rfl hl.1 rfl (lv_room (Nat.le_of_ble_eq_true rfl)) dX2_takesTickets_1 ⟨Nat.le_of_ble_eq_true rfl, Nat.le_of_ble_eq_true rfl⟩) hS ?_
  clear hW hS; intro H locs hW hS
  refine lv_if_eq (tgt := 19) hx hb dX2_takesTickets_4 (by decide) (fun hc => ?_) (fun hc => ?_)
  · replace hF := it_t hF hc
    refine lv_iconst (v := (0 : Int32)) hx hb dX2_takesTickets_19 (by decide) ?_
    have hq1 := Option.some.inj hF
    subst hq1
    exact e_z hx hb hr hlk hK hN hW hS (by decide) dX2_takesTickets_20
  · replace hF := it_f hF hc
    refine lv_aload_n hx hb dX2_takesTickets_7 rfl (lv_at hl 0 rfl) ?_
    refine g2_6 hx hb hts hi2_takesTickets_2 hown hK hW hme (hts (.fieldLink RX2 15 RX2 "recallIn" "I") (by decide +kernel)) dX2_takesTickets_8 ?_
    refine lv_iconst (v := (-1 : Int32)) hx hb dX2_takesTickets_11 (by decide) ?_
    refine lv_icmp_ne (tgt := 19) hx hb dX2_takesTickets_12 (by decide) (fun hc => ?_) (fun hc => ?_)
    · replace hF := it_f hF hc
      refine lv_iconst (v := (0 : Int32)) hx hb dX2_takesTickets_19 (by decide) ?_
      have hq1 := Option.some.inj hF
      subst hq1
      exact e_z hx hb hr hlk hK hN hW hS (by decide) dX2_takesTickets_20
    · replace hF := it_t hF hc
      refine lv_iconst (v := (1 : Int32)) hx hb dX2_takesTickets_15 (by decide) ?_
      refine lv_goto (tgt := 20) hx hb dX2_takesTickets_16 (by decide) ?_
      have hq1 := Option.some.inj hF
      subst hq1
      exact e_z hx hb hr hlk hK hN hW hS (by decide) dX2_takesTickets_20

set_option maxHeartbeats 4000000 in
set_option maxRecDepth 100000 in
theorem c2_takesTickets (l : Launch) {D : va_G} {cA : Nat → ClassId} {z : Nat} {ad : Nat → Nat → Nat} {N : TN} {S : TS} {P : TP} {M : TS} (me : Nat) (hme : me < N 2) {v : Int32} (hF : f2_takesTickets S P me = some v) : Met l yX2_takesTickets wsX2_takesTickets rm2_takesTickets (va_Pc [.ref (ad 2 me)] (Wl D cA z (ad, N, S, P, M))) (Qi D cA z v (ad, N, S, P, M)) 0 0 (fun q => z ≤ q) := by
  refine Met.ofW (cc := cX2_takesTickets) (maxL := 1) (ret := (some .boolean)) (by decide) rfl ?_
  intro p e s m args below meth c s₁ B hml hv
  obtain ⟨rfl, hW, hK, hN⟩ := hv
  have hl := lv_entry ([.ref (ad 2 me)]) (n := 1) (Nat.le_of_ble_eq_true rfl)
  rw [lg_entry_eq]
  generalize (lg_sl ([.ref (ad 2 me)]) ++ List.replicate (1 - (lg_sl ([.ref (ad 2 me)])).length) Slot.unset).toArray = ls at hl ⊢
  exact w2_takesTickets ⟨B.exec, B.bytes, B.returns, hml, findClass_of_methodNamed B.named, atoms_spec (ws := wsX2_takesTickets) B.pre, B.notSynchronized⟩ hK hN me hme hF hW va_S.rf hl

-- 3 hasLane
abbrev rm3_hasLane : Room := { frames := 0, cells := 0, slots := 0, locals := 0 }
def f3_hasLane (S : TS) (P : TP) (me : Nat) (a1 : Int32) (a2 : Int32) : Option (Int32) :=
  if a1 < 0 then
  (some (0 : Int32))
  else
  (if (S 301 me) ≤ a1 then
  (some (0 : Int32))
  else
  (if a2 < 0 then
  (some (0 : Int32))
  else
  (if (S 302 me) ≤ a2 then
  (some (0 : Int32))
  else
  (some (1 : Int32)))))
set_option maxRecDepth 20000 in
theorem hi3_hasLane_3 : ∀ w ∈ u_ws RX3 TX3 8, w ∈ wsX3_hasLane := by decide +kernel
set_option maxHeartbeats 4000000 in
set_option maxRecDepth 100000 in
theorem w3_hasLane {p : Program} {l : Launch} {e : Env} {s : State} {m : MethodId} {args : Array Value} {below : List Frame} {meth : Method} {c : Code} (C : MC p s m args meth c cX3_hasLane (some .boolean) 3 RX3 wsX3_hasLane) {D : va_G} {cA : Nat → ClassId} {z : Nat} {ad : Nat → Nat → Nat} {N : TN} (hK : va_K D vwCl (tysW cA) s) (hN : NW s) {S : TS} {P : TP} {M : TS} (me : Nat) (a1 : Int32) (a2 : Int32) (hme : me < N 3) {v : Int32} (hF : f3_hasLane S P me a1 a2 = some v)
    {H : Heap} {ls : Array Slot} (hW : Wd D cA z ad N S P M H) {locs : List Loc} (hS : va_S (fun q => z ≤ q) s.heap H locs) (hl : lv_has ls 3 [(0, .ref (ad 3 me)), (1, .int a1), (2, .int a2)]) : W p l e rm3_hasLane s m args below meth c H locs 0 0 (MQ below (Qi D cA z v (ad, N, S, P, M)) args s 0 0 (fun q => z ≤ q)) (F0 m 0 ls []) := by
  obtain ⟨hx, hb, hr, hml, hown, hts, hlk⟩ := id C
  unfold f3_hasLane at hF
  refine lv_iload_n hx hb dX3_hasLane_0 rfl (lv_at hl 1 rfl) ?_
  refine lv_if_lt (tgt := 28) hx hb dX3_hasLane_1 (by decide) (fun hc => ?_) (fun hc => ?_)
  · replace hF := it_t hF hc
    refine lv_iconst (v := (0 : Int32)) hx hb dX3_hasLane_28 (by decide) ?_
    have hq1 := Option.some.inj hF
    subst hq1
    exact e_z hx hb hr hlk hK hN hW hS (by decide) dX3_hasLane_29
  · replace hF := it_f hF hc
    refine lv_iload_n hx hb dX3_hasLane_4 rfl (lv_at hl 1 rfl) ?_
    refine lv_aload_n hx hb dX3_hasLane_5 rfl (lv_at hl 0 rfl) ?_
    refine g3_1 hx hb hts hi3_hasLane_3 hown hK hW hme (hts (.fieldLink RX3 15 RX3 "decks" "I") (by decide +kernel)) dX3_hasLane_6 ?_
    refine lv_icmp_ge (tgt := 28) hx hb dX3_hasLane_9 (by decide) (fun hc => ?_) (fun hc => ?_)
    · replace hF := it_t hF hc
      refine lv_iconst (v := (0 : Int32)) hx hb dX3_hasLane_28 (by decide) ?_
      have hq1 := Option.some.inj hF
      subst hq1
      exact e_z hx hb hr hlk hK hN hW hS (by decide) dX3_hasLane_29
    · replace hF := it_f hF hc
      refine lv_iload_n hx hb dX3_hasLane_12 rfl (lv_at hl 2 rfl) ?_
      refine lv_if_lt (tgt := 28) hx hb dX3_hasLane_13 (by decide) (fun hc => ?_) (fun hc => ?_)
      · replace hF := it_t hF hc
        refine lv_iconst (v := (0 : Int32)) hx hb dX3_hasLane_28 (by decide) ?_
        have hq1 := Option.some.inj hF
        subst hq1
        exact e_z hx hb hr hlk hK hN hW hS (by decide) dX3_hasLane_29
      · replace hF := it_f hF hc
        refine lv_iload_n hx hb dX3_hasLane_16 rfl (lv_at hl 2 rfl) ?_
        refine lv_aload_n hx hb dX3_hasLane_17 rfl (lv_at hl 0 rfl) ?_
        refine g3_2 hx hb hts hi3_hasLane_3 hown hK hW hme (hts (.fieldLink RX3 18 RX3 "lanes" "I") (by decide +kernel)) dX3_hasLane_18 ?_
        refine lv_icmp_ge (tgt := 28) hx hb dX3_hasLane_21 (by decide) (fun hc => ?_) (fun hc => ?_)
        · replace hF := it_t hF hc
          refine lv_iconst (v := (0 : Int32)) hx hb dX3_hasLane_28 (by decide) ?_
          have hq1 := Option.some.inj hF
          subst hq1
          exact e_z hx hb hr hlk hK hN hW hS (by decide) dX3_hasLane_29
        · replace hF := it_f hF hc
          refine lv_iconst (v := (1 : Int32)) hx hb dX3_hasLane_24 (by decide) ?_
          refine lv_goto (tgt := 29) hx hb dX3_hasLane_25 (by decide) ?_
          have hq1 := Option.some.inj hF
          subst hq1
          exact e_z hx hb hr hlk hK hN hW hS (by decide) dX3_hasLane_29

set_option maxHeartbeats 4000000 in
set_option maxRecDepth 100000 in
theorem c3_hasLane (l : Launch) {D : va_G} {cA : Nat → ClassId} {z : Nat} {ad : Nat → Nat → Nat} {N : TN} {S : TS} {P : TP} {M : TS} (me : Nat) (a1 : Int32) (a2 : Int32) (hme : me < N 3) {v : Int32} (hF : f3_hasLane S P me a1 a2 = some v) : Met l yX3_hasLane wsX3_hasLane rm3_hasLane (va_Pc [.ref (ad 3 me), .int a1, .int a2] (Wl D cA z (ad, N, S, P, M))) (Qi D cA z v (ad, N, S, P, M)) 0 0 (fun q => z ≤ q) := by
  refine Met.ofW (cc := cX3_hasLane) (maxL := 3) (ret := (some .boolean)) (by decide) rfl ?_
  intro p e s m args below meth c s₁ B hml hv
  obtain ⟨rfl, hW, hK, hN⟩ := hv
  have hl := lv_entry ([.ref (ad 3 me), .int a1, .int a2]) (n := 3) (Nat.le_of_ble_eq_true rfl)
  rw [lg_entry_eq]
  generalize (lg_sl ([.ref (ad 3 me), .int a1, .int a2]) ++ List.replicate (3 - (lg_sl ([.ref (ad 3 me), .int a1, .int a2])).length) Slot.unset).toArray = ls at hl ⊢
  exact w3_hasLane ⟨B.exec, B.bytes, B.returns, hml, findClass_of_methodNamed B.named, atoms_spec (ws := wsX3_hasLane) B.pre, B.notSynchronized⟩ hK hN me a1 a2 hme hF hW va_S.rf hl

-- 3 chain
abbrev rm3_chain : Room := { frames := 1, cells := 0, slots := 0, locals := 22 }
def f3_chain (S : TS) (P : TP) (me : Nat) (a1 : Nat) (a2 : Option Nat) (a3 : Option Nat) : Option (TS × TP) :=
  a2.elim ((f3_hasLane S P me (S 408 a1) (S 409 a1)).bind fun (v2 : Int32) =>
  if v2 = 0 then
  (some (S, P))
  else
  (lt (P 307 me 0) fun (r4 : Option Nat) =>
  r4.bind fun (t5 : Nat) =>
  (ix (((S 408 a1) * (S 302 me)) + (S 409 a1)) (S 1499 t5).toNatClampNeg).bind fun (j6 : Nat) =>
  lt (up3 P 1400 t5 j6 a3) fun (P7 : TP) =>
  some (S, P7)))
  (fun (t1 : Nat) => lt (up3 P 415 t1 0 a3) fun (P8 : TP) =>
  some (S, P8))
set_option maxRecDepth 20000 in
theorem hi3_chain_3 : ∀ w ∈ u_ws RX3 TX3 8, w ∈ wsX3_chain := by decide +kernel
set_option maxRecDepth 20000 in
theorem hi3_chain_4 : ∀ w ∈ u_ws RX4 TX4 16, w ∈ wsX3_chain := by decide +kernel
set_option maxHeartbeats 4000000 in
set_option maxRecDepth 100000 in
theorem w3_chain {p : Program} {l : Launch} {e : Env} {s : State} {m : MethodId} {args : Array Value} {below : List Frame} {meth : Method} {c : Code} (C : MC p s m args meth c cX3_chain none 4 RX3 wsX3_chain) {D : va_G} {cA : Nat → ClassId} {z : Nat} {ad : Nat → Nat → Nat} {N : TN} (hK : va_K D vwCl (tysW cA) s) (hN : NW s) {S : TS} {P : TP} {M : TS} (me : Nat) (a1 : Nat) (a2 : Option Nat) (a3 : Option Nat) (hme : me < N 3) (ha1 : a1 < N 4) (ha2 : ∀ y, a2 = some y → y < N 4) (ha3 : ∀ y, a3 = some y → y < N 4) {S' : TS} {P' : TP} (hF : f3_chain S P me a1 a2 a3 = some (S', P'))
    {H : Heap} {ls : Array Slot} (hW : Wd D cA z ad N S P M H) {locs : List Loc} (hS : va_S (fun q => z ≤ q) s.heap H locs) (hl : lv_has ls 4 [(0, .ref (ad 3 me)), (1, .ref (ad 4 a1)), (2, va_rf (a2.map (ad 4))), (3, va_rf (a3.map (ad 4)))]) : W p l e rm3_chain s m args below meth c H locs 0 0 (MQ below (Qv D cA z (ad, N, S', P', M)) args s 0 0 (fun q => z ≤ q)) (F0 m 0 ls []) := by
  obtain ⟨hx, hb, hr, hml, hown, hts, hlk⟩ := id C
  unfold f3_chain at hF
  refine q_aload_n hx hb dX3_chain_0 rfl (lv_at hl 2 rfl) ?_
  refine q_ifnull (tgt := 12) hx hb dX3_chain_1 (by decide) (fun hc => ?_) (fun t1 hc => ?_)
  · subst hc
    replace hF := el_n hF
    replace hl : lv_has ls 4 [(0, .ref (ad 3 me)), (1, .ref (ad 4 a1)), (2, .null), (3, va_rf (a3.map (ad 4)))] := hl
    refine lv_aload_n hx hb dX3_chain_12 rfl (lv_at hl 0 rfl) ?_
    refine lv_aload_n hx hb dX3_chain_13 rfl (lv_at hl 1 rfl) ?_
    refine gn4_8 hx hb hts hi3_chain_4 hown hK hW ha1 (nf_30 hN) dX3_chain_14 ?_
    refine lv_aload_n hx hb dX3_chain_17 rfl (lv_at hl 1 rfl) ?_
    refine gn4_9 hx hb hts hi3_chain_4 hown hK hW ha1 (nf_31 hN) dX3_chain_18 ?_
    replace hF := ob hF
    obtain ⟨v2, q3, hF⟩ := hF
    refine k_i (va_runV (As := [.int (S 408 a1), .int (S 409 a1)]) (rest := []) ⟨hx, hb, hml, hown, hts⟩ (c3_hasLane l me (S 408 a1) (S 409 a1) hme q3) (cwV 2 hts gX3_chain_X3_hasLane rfl rfl rfl (by decide +kernel) ⟨Nat.le_of_ble_eq_true rfl, Nat.le_of_ble_eq_true rfl⟩) (k_preV hW hK hN hme (EE_3 cA ad S P M me) rfl) rfl rfl hl.1 rfl (lv_room (Nat.le_of_ble_eq_true rfl)) dX3_chain_21 ⟨Nat.le_of_ble_eq_true rfl, Nat.le_of_ble_eq_true rfl⟩) hS ?_
    clear hW hS; intro H locs hW hS
    refine lv_if_eq (tgt := 47) hx hb dX3_chain_24 (by decide) (fun hc => ?_) (fun hc => ?_)
    · replace hF := it_t hF hc
      obtain ⟨hq1, hq2⟩ := Prod.mk.inj (Option.some.inj hF)
      subst hq1
      subst hq2
      exact e_v hx hb hr hlk hK hN hW hS dX3_chain_47
    · replace hF := it_f hF hc
      refine lv_aload_n hx hb dX3_chain_27 rfl (lv_at hl 0 rfl) ?_
      replace hF := lt_ex hF
      obtain ⟨r4, er4, hF⟩ := hF
      have hr4 : ∀ y, r4 = some y → y < N 14 := hW.v er4
      refine g3_7 hx hb hts hi3_chain_3 hown hK hW hme er4 (hts (.fieldLink RX3 30 RX3 "firsts" "[LFerryTerminal$Ticket;") (by decide +kernel)) dX3_chain_28 ?_
      refine lv_aload_n hx hb dX3_chain_31 rfl (lv_at hl 1 rfl) ?_
      refine gn4_8 hx hb hts hi3_chain_4 hown hK hW ha1 (nf_30 hN) dX3_chain_32 ?_
      refine lv_aload_n hx hb dX3_chain_35 rfl (lv_at hl 0 rfl) ?_
      refine g3_2 hx hb hts hi3_chain_3 hown hK hW hme (hts (.fieldLink RX3 18 RX3 "lanes" "I") (by decide +kernel)) dX3_chain_36 ?_
      refine lv_imul hx hb dX3_chain_39 ?_
      refine lv_aload_n hx hb dX3_chain_40 rfl (lv_at hl 1 rfl) ?_
      refine gn4_9 hx hb hts hi3_chain_4 hown hK hW ha1 (nf_31 hN) dX3_chain_41 ?_
      refine lv_iadd hx hb dX3_chain_44 ?_
      refine q_aload_n hx hb dX3_chain_45 rfl (lv_at hl 3 rfl) ?_
      replace hF := ob hF
      obtain ⟨t5, et5, hF⟩ := hF
      subst et5
      have ht5 := hr4 t5 rfl
      replace hF := ob hF
      obtain ⟨j6, ej6, hF⟩ := hF
      replace hF := lt_ex hF
      obtain ⟨P7, eP7, hF⟩ := hF
      refine t14 (r := a3) hx hb hK hW hS ht5 ej6 ha3 eP7 dX3_chain_46 ?_
      clear hW hS; intro H locs hW hS
      obtain ⟨hq1, hq2⟩ := Prod.mk.inj (Option.some.inj hF)
      subst hq1
      subst hq2
      exact e_v hx hb hr hlk hK hN hW hS dX3_chain_47
  · subst hc
    replace hF := el_s hF
    have ht1 := ha2 t1 rfl
    replace hl : lv_has ls 4 [(0, .ref (ad 3 me)), (1, .ref (ad 4 a1)), (2, .ref (ad 4 t1)), (3, va_rf (a3.map (ad 4)))] := hl
    refine lv_aload_n hx hb dX3_chain_4 rfl (lv_at hl 2 rfl) ?_
    refine q_aload_n hx hb dX3_chain_5 rfl (lv_at hl 3 rfl) ?_
    replace hF := lt_ex hF
    obtain ⟨P8, eP8, hF⟩ := hF
    refine pn4_15 (r := a3) hx hb hts hi3_chain_4 hown hK hW hS ht1 ha3 eP8 (nf_38 hN) dX3_chain_6 ?_
    clear hW hS; intro H locs hW hS
    refine lv_goto (tgt := 47) hx hb dX3_chain_9 (by decide) ?_
    obtain ⟨hq1, hq2⟩ := Prod.mk.inj (Option.some.inj hF)
    subst hq1
    subst hq2
    exact e_v hx hb hr hlk hK hN hW hS dX3_chain_47

set_option maxHeartbeats 4000000 in
set_option maxRecDepth 100000 in
theorem c3_chain (l : Launch) {D : va_G} {cA : Nat → ClassId} {z : Nat} {ad : Nat → Nat → Nat} {N : TN} {S : TS} {P : TP} {M : TS} (me : Nat) (a1 : Nat) (a2 : Option Nat) (a3 : Option Nat) (hme : me < N 3) (ha1 : a1 < N 4) (ha2 : ∀ y, a2 = some y → y < N 4) (ha3 : ∀ y, a3 = some y → y < N 4) {S' : TS} {P' : TP} (hF : f3_chain S P me a1 a2 a3 = some (S', P')) : Met l yX3_chain wsX3_chain rm3_chain (va_Pc [.ref (ad 3 me), .ref (ad 4 a1), va_rf (a2.map (ad 4)), va_rf (a3.map (ad 4))] (Wl D cA z (ad, N, S, P, M))) (Qv D cA z (ad, N, S', P', M)) 0 0 (fun q => z ≤ q) := by
  refine Met.ofW (cc := cX3_chain) (maxL := 4) (ret := none) (by decide) rfl ?_
  intro p e s m args below meth c s₁ B hml hv
  obtain ⟨rfl, hW, hK, hN⟩ := hv
  cases a2 with
  | none =>
    cases a3 with
    | none =>
      have hl := lv_entry ([.ref (ad 3 me), .ref (ad 4 a1), .null, .null]) (n := 4) (Nat.le_of_ble_eq_true rfl)
      rw [lg_entry_eq]
      exact w3_chain ⟨B.exec, B.bytes, B.returns, hml, findClass_of_methodNamed B.named, atoms_spec (ws := wsX3_chain) B.pre, B.notSynchronized⟩ hK hN me a1 none none hme ha1 ha2 ha3 hF hW va_S.rf hl
    | some ya3 =>
      have hl := lv_entry ([.ref (ad 3 me), .ref (ad 4 a1), .null, .ref (ad 4 ya3)]) (n := 4) (Nat.le_of_ble_eq_true rfl)
      rw [lg_entry_eq]
      exact w3_chain ⟨B.exec, B.bytes, B.returns, hml, findClass_of_methodNamed B.named, atoms_spec (ws := wsX3_chain) B.pre, B.notSynchronized⟩ hK hN me a1 none (some ya3) hme ha1 ha2 ha3 hF hW va_S.rf hl
  | some ya2 =>
    cases a3 with
    | none =>
      have hl := lv_entry ([.ref (ad 3 me), .ref (ad 4 a1), .ref (ad 4 ya2), .null]) (n := 4) (Nat.le_of_ble_eq_true rfl)
      rw [lg_entry_eq]
      exact w3_chain ⟨B.exec, B.bytes, B.returns, hml, findClass_of_methodNamed B.named, atoms_spec (ws := wsX3_chain) B.pre, B.notSynchronized⟩ hK hN me a1 (some ya2) none hme ha1 ha2 ha3 hF hW va_S.rf hl
    | some ya3 =>
      have hl := lv_entry ([.ref (ad 3 me), .ref (ad 4 a1), .ref (ad 4 ya2), .ref (ad 4 ya3)]) (n := 4) (Nat.le_of_ble_eq_true rfl)
      rw [lg_entry_eq]
      exact w3_chain ⟨B.exec, B.bytes, B.returns, hml, findClass_of_methodNamed B.named, atoms_spec (ws := wsX3_chain) B.pre, B.notSynchronized⟩ hK hN me a1 (some ya2) (some ya3) hme ha1 ha2 ha3 hF hW va_S.rf hl

-- 3 nearestBow
abbrev rm3_nearestBow : Room := { frames := 1, cells := 0, slots := 0, locals := 22 }
def f3_nearestBow (S : TS) (P : TP) (me : Nat) (a1 : Int32) (a2 : Int32) : Option (Option Nat) :=
  (f3_hasLane S P me a1 a2).bind fun (v1 : Int32) =>
  if v1 = 0 then
  (some none)
  else
  (lt (P 307 me 0) fun (r3 : Option Nat) =>
  r3.bind fun (t4 : Nat) =>
  (ix ((a1 * (S 302 me)) + a2) (S 1499 t4).toNatClampNeg).bind fun (j5 : Nat) =>
  lt (P 1400 t4 j5) fun (r6 : Option Nat) =>
  some r6)
set_option maxRecDepth 20000 in
theorem hi3_nearestBow_3 : ∀ w ∈ u_ws RX3 TX3 8, w ∈ wsX3_nearestBow := by decide +kernel
set_option maxHeartbeats 4000000 in
set_option maxRecDepth 100000 in
theorem w3_nearestBow {p : Program} {l : Launch} {e : Env} {s : State} {m : MethodId} {args : Array Value} {below : List Frame} {meth : Method} {c : Code} (C : MC p s m args meth c cX3_nearestBow (some (.object "FerryTerminal$Ticket")) 3 RX3 wsX3_nearestBow) {D : va_G} {cA : Nat → ClassId} {z : Nat} {ad : Nat → Nat → Nat} {N : TN} (hK : va_K D vwCl (tysW cA) s) (hN : NW s) {S : TS} {P : TP} {M : TS} (me : Nat) (a1 : Int32) (a2 : Int32) (hme : me < N 3) {v : Option Nat} (hF : f3_nearestBow S P me a1 a2 = some v)
    {H : Heap} {ls : Array Slot} (hW : Wd D cA z ad N S P M H) {locs : List Loc} (hS : va_S (fun q => z ≤ q) s.heap H locs) (hl : lv_has ls 3 [(0, .ref (ad 3 me)), (1, .int a1), (2, .int a2)]) : W p l e rm3_nearestBow s m args below meth c H locs 0 0 (MQ below (Qq D cA z 4 v (ad, N, S, P, M)) args s 0 0 (fun q => z ≤ q)) (F0 m 0 ls []) := by
  obtain ⟨hx, hb, hr, hml, hown, hts, hlk⟩ := id C
  unfold f3_nearestBow at hF
  refine lv_aload_n hx hb dX3_nearestBow_0 rfl (lv_at hl 0 rfl) ?_
  refine lv_iload_n hx hb dX3_nearestBow_1 rfl (lv_at hl 1 rfl) ?_
  refine lv_iload_n hx hb dX3_nearestBow_2 rfl (lv_at hl 2 rfl) ?_
  replace hF := ob hF
  obtain ⟨v1, q2, hF⟩ := hF
  refine k_i (va_runV (As := [.int a1, .int a2]) (rest := []) ⟨hx, hb, hml, hown, hts⟩ (c3_hasLane l me a1 a2 hme q2) (cwV 2 hts gX3_nearestBow_X3_hasLane rfl rfl rfl (by decide +kernel) ⟨Nat.le_of_ble_eq_true rfl, Nat.le_of_ble_eq_true rfl⟩) (k_preV hW hK hN hme (EE_3 cA ad S P M me) rfl) rfl rfl hl.1 rfl (lv_room (Nat.le_of_ble_eq_true rfl)) dX3_nearestBow_3 ⟨Nat.le_of_ble_eq_true rfl, Nat.le_of_ble_eq_true rfl⟩) hS ?_
  clear hW hS; intro H locs hW hS
  refine lv_if_eq (tgt := 25) hx hb dX3_nearestBow_6 (by decide) (fun hc => ?_) (fun hc => ?_)
  · replace hF := it_t hF hc
    refine lv_null hx hb dX3_nearestBow_25 ?_
    have hq1 := Option.some.inj hF
    subst hq1
    exact e_q (v := none) hx hb hr hlk hK hN hW hS q_none dX3_nearestBow_26
  · replace hF := it_f hF hc
    refine lv_aload_n hx hb dX3_nearestBow_9 rfl (lv_at hl 0 rfl) ?_
    replace hF := lt_ex hF
    obtain ⟨r3, er3, hF⟩ := hF
    have hr3 : ∀ y, r3 = some y → y < N 14 := hW.v er3
    refine g3_7 hx hb hts hi3_nearestBow_3 hown hK hW hme er3 (hts (.fieldLink RX3 30 RX3 "firsts" "[LFerryTerminal$Ticket;") (by decide +kernel)) dX3_nearestBow_10 ?_
    refine lv_iload_n hx hb dX3_nearestBow_13 rfl (lv_at hl 1 rfl) ?_
    refine lv_aload_n hx hb dX3_nearestBow_14 rfl (lv_at hl 0 rfl) ?_
    refine g3_2 hx hb hts hi3_nearestBow_3 hown hK hW hme (hts (.fieldLink RX3 18 RX3 "lanes" "I") (by decide +kernel)) dX3_nearestBow_15 ?_
    refine lv_imul hx hb dX3_nearestBow_18 ?_
    refine lv_iload_n hx hb dX3_nearestBow_19 rfl (lv_at hl 2 rfl) ?_
    refine lv_iadd hx hb dX3_nearestBow_20 ?_
    replace hF := ob hF
    obtain ⟨t4, et4, hF⟩ := hF
    subst et4
    have ht4 := hr3 t4 rfl
    replace hF := ob hF
    obtain ⟨j5, ej5, hF⟩ := hF
    replace hF := lt_ex hF
    obtain ⟨r6, er6, hF⟩ := hF
    have hr6 : ∀ y, r6 = some y → y < N 4 := hW.v er6
    refine l14 hx hb hK hW ht4 ej5 er6 dX3_nearestBow_21 ?_
    refine lv_goto (tgt := 26) hx hb dX3_nearestBow_22 (by decide) ?_
    have hq1 := Option.some.inj hF
    subst hq1
    exact e_q (v := r6) hx hb hr hlk hK hN hW hS hr6 dX3_nearestBow_26

set_option maxHeartbeats 4000000 in
set_option maxRecDepth 100000 in
theorem c3_nearestBow (l : Launch) {D : va_G} {cA : Nat → ClassId} {z : Nat} {ad : Nat → Nat → Nat} {N : TN} {S : TS} {P : TP} {M : TS} (me : Nat) (a1 : Int32) (a2 : Int32) (hme : me < N 3) {v : Option Nat} (hF : f3_nearestBow S P me a1 a2 = some v) : Met l yX3_nearestBow wsX3_nearestBow rm3_nearestBow (va_Pc [.ref (ad 3 me), .int a1, .int a2] (Wl D cA z (ad, N, S, P, M))) (Qq D cA z 4 v (ad, N, S, P, M)) 0 0 (fun q => z ≤ q) := by
  refine Met.ofW (cc := cX3_nearestBow) (maxL := 3) (ret := (some (.object "FerryTerminal$Ticket"))) (by decide) rfl ?_
  intro p e s m args below meth c s₁ B hml hv
  obtain ⟨rfl, hW, hK, hN⟩ := hv
  have hl := lv_entry ([.ref (ad 3 me), .int a1, .int a2]) (n := 3) (Nat.le_of_ble_eq_true rfl)
  rw [lg_entry_eq]
  generalize (lg_sl ([.ref (ad 3 me), .int a1, .int a2]) ++ List.replicate (3 - (lg_sl ([.ref (ad 3 me), .int a1, .int a2])).length) Slot.unset).toArray = ls at hl ⊢
  exact w3_nearestBow ⟨B.exec, B.bytes, B.returns, hml, findClass_of_methodNamed B.named, atoms_spec (ws := wsX3_nearestBow) B.pre, B.notSynchronized⟩ hK hN me a1 a2 hme hF hW va_S.rf hl

-- 3 nextAhead
abbrev rm3_nextAhead : Room := { frames := 2, cells := 0, slots := 0, locals := 44 }
def f3_nextAhead_15 (K : Option Nat → Option (Option Nat)) (S : TS) (P : TP) (c1 : Nat) : Nat → Option Nat → Option Nat → Option (Option Nat)
  | 0, _, _ => none
  | n + 1, y2, y3 =>
    y3.elim (K y2)
    (fun (t3 : Nat) => if (S 410 c1) ≤ (S 410 t3) then
    (K y2)
    else
    (lt (P 415 t3 0) fun (r4 : Option Nat) =>
    f3_nextAhead_15 K S P c1 n (some t3) r4))

def f3_nextAhead (S : TS) (P : TP) (me : Nat) (a1 : Nat) : Option (Option Nat) :=
  (f3_nearestBow S P me (S 408 a1) (S 409 a1)).bind fun (r1 : Option Nat) =>
  f3_nextAhead_15 (fun (w5 : Option Nat) =>
  some w5) S P a1 FU none r1
set_option maxRecDepth 20000 in
theorem hi3_nextAhead_4 : ∀ w ∈ u_ws RX4 TX4 16, w ∈ wsX3_nextAhead := by decide +kernel
set_option maxHeartbeats 4000000 in
set_option maxRecDepth 100000 in
theorem w3_nextAhead_15 {p : Program} {l : Launch} {e : Env} {s : State} {m : MethodId} {args : Array Value} {below : List Frame} {meth : Method} {c : Code} (C : MC p s m args meth c cX3_nextAhead (some (.object "FerryTerminal$Ticket")) 4 RX3 wsX3_nextAhead) {D : va_G} {cA : Nat → ClassId} {z : Nat} {ad : Nat → Nat → Nat} {N : TN} (hK : va_K D vwCl (tysW cA) s) (hN : NW s) {M : TS} {S : TS} {P : TP} (c1 : Nat) (hc1 : c1 < N 4) {v : Option Nat} {K : Option Nat → Option (Option Nat)}
    (hE : ∀ (e2 : Option Nat) (H : Heap) (locs : List Loc) (ls : Array Slot), (∀ y, e2 = some y → y < N 4) → K e2 = some v → Wd D cA z ad N S P M H → va_S (fun q => z ≤ q) s.heap H locs → lv_has ls 4 [(2, va_rf (e2.map (ad 4)))] → W p l e rm3_nextAhead s m args below meth c H locs 0 0 (MQ below (Qq D cA z 4 v (ad, N, S, P, M)) args s 0 0 (fun q => z ≤ q)) (F0 m 40 ls [])) :
    ∀ (n : Nat) (y2 : Option Nat) (y3 : Option Nat) (H : Heap) (locs : List Loc) (ls : Array Slot), (∀ y, y2 = some y → y < N 4) → (∀ y, y3 = some y → y < N 4) → f3_nextAhead_15 K S P c1 n y2 y3 = some v → Wd D cA z ad N S P M H → va_S (fun q => z ≤ q) s.heap H locs → lv_has ls 4 [(1, .ref (ad 4 c1)), (2, va_rf (y2.map (ad 4))), (3, va_rf (y3.map (ad 4)))] → W p l e rm3_nextAhead s m args below meth c H locs 0 0 (MQ below (Qq D cA z 4 v (ad, N, S, P, M)) args s 0 0 (fun q => z ≤ q)) (F0 m 15 ls []) := by
  obtain ⟨hx, hb, hr, hml, hown, hts, hlk⟩ := id C
  intro n
  induction n with
  | zero => intro y2 y3 H locs ls hy2 hy3 hF; cases hF
  | succ n ih =>
    intro y2 y3 H locs ls hy2 hy3 hF hW hS hl
    rw [f3_nextAhead_15] at hF
    refine q_aload_n hx hb dX3_nextAhead_15 rfl (lv_at hl 2 rfl) ?_
    refine q_ifnull (tgt := 40) hx hb dX3_nextAhead_16 (by decide) (fun hc => ?_) (fun t3 hc => ?_)
    · subst hc
      replace hF := el_n hF
      replace hl : lv_has ls 4 [(1, .ref (ad 4 c1)), (2, va_rf (y2.map (ad 4))), (3, .null)] := hl
      exact hE y2 _ _ _ hy2 hF hW hS (lv_sub hl [1] rfl)
    · subst hc
      replace hF := el_s hF
      have ht3 := hy3 t3 rfl
      replace hl : lv_has ls 4 [(1, .ref (ad 4 c1)), (2, va_rf (y2.map (ad 4))), (3, .ref (ad 4 t3))] := hl
      refine lv_aload_n hx hb dX3_nextAhead_19 rfl (lv_at hl 2 rfl) ?_
      refine gn4_10 hx hb hts hi3_nextAhead_4 hown hK hW ht3 (nf_32 hN) dX3_nextAhead_20 ?_
      refine lv_aload_n hx hb dX3_nextAhead_23 rfl (lv_at hl 0 rfl) ?_
      refine gn4_10 hx hb hts hi3_nextAhead_4 hown hK hW hc1 (nf_32 hN) dX3_nextAhead_24 ?_
      refine lv_icmp_ge (tgt := 40) hx hb dX3_nextAhead_27 (by decide) (fun hc => ?_) (fun hc => ?_)
      · replace hF := it_t hF hc
        exact hE y2 _ _ _ hy2 hF hW hS (lv_sub hl [1] rfl)
      · replace hF := it_f hF hc
        refine lv_aload_n hx hb dX3_nextAhead_30 rfl (lv_at hl 2 rfl) ?_
        refine lv_astore_n (lv' := [(2, .ref (ad 4 t3)), (1, .ref (ad 4 c1)), (3, .ref (ad 4 t3))]) hx hb dX3_nextAhead_31 rfl hl (by decide) rfl ?_
        clear hl; intro ls hl
        refine lv_aload_n hx hb dX3_nextAhead_32 rfl (lv_at hl 2 rfl) ?_
        replace hF := lt_ex hF
        obtain ⟨r4, er4, hF⟩ := hF
        have hr4 : ∀ y, r4 = some y → y < N 4 := hW.v er4
        refine gn4_15 hx hb hts hi3_nextAhead_4 hown hK hW ht3 er4 (nf_38 hN) dX3_nextAhead_33 ?_
        refine q_astore_n (lv' := [(3, va_rf (r4.map (ad 4))), (2, .ref (ad 4 t3)), (1, .ref (ad 4 c1))]) hx hb dX3_nextAhead_36 rfl hl (by decide) rfl ?_
        clear hl; intro ls hl
        refine lv_goto (tgt := 15) hx hb dX3_nextAhead_37 (by decide) ?_
        exact ih (some t3) r4 _ _ _ (q_some ht3) hr4 hF hW hS (lv_sub hl [2, 1, 0] rfl)

set_option maxHeartbeats 4000000 in
set_option maxRecDepth 100000 in
theorem w3_nextAhead {p : Program} {l : Launch} {e : Env} {s : State} {m : MethodId} {args : Array Value} {below : List Frame} {meth : Method} {c : Code} (C : MC p s m args meth c cX3_nextAhead (some (.object "FerryTerminal$Ticket")) 4 RX3 wsX3_nextAhead) {D : va_G} {cA : Nat → ClassId} {z : Nat} {ad : Nat → Nat → Nat} {N : TN} (hK : va_K D vwCl (tysW cA) s) (hN : NW s) {S : TS} {P : TP} {M : TS} (me : Nat) (a1 : Nat) (hme : me < N 3) (ha1 : a1 < N 4) {v : Option Nat} (hF : f3_nextAhead S P me a1 = some v)
    {H : Heap} {ls : Array Slot} (hW : Wd D cA z ad N S P M H) {locs : List Loc} (hS : va_S (fun q => z ≤ q) s.heap H locs) (hl : lv_has ls 4 [(0, .ref (ad 3 me)), (1, .ref (ad 4 a1))]) : W p l e rm3_nextAhead s m args below meth c H locs 0 0 (MQ below (Qq D cA z 4 v (ad, N, S, P, M)) args s 0 0 (fun q => z ≤ q)) (F0 m 0 ls []) := by
  obtain ⟨hx, hb, hr, hml, hown, hts, hlk⟩ := id C
  unfold f3_nextAhead at hF
  refine lv_null hx hb dX3_nextAhead_0 ?_
  refine q_astore_n (lv' := [(2, .null), (0, .ref (ad 3 me)), (1, .ref (ad 4 a1))]) (r := none) hx hb dX3_nextAhead_1 rfl hl (by decide) rfl ?_
  clear hl; intro ls hl
  refine lv_aload_n hx hb dX3_nextAhead_2 rfl (lv_at hl 1 rfl) ?_
  refine lv_aload_n hx hb dX3_nextAhead_3 rfl (lv_at hl 2 rfl) ?_
  refine gn4_8 hx hb hts hi3_nextAhead_4 hown hK hW ha1 (nf_30 hN) dX3_nextAhead_4 ?_
  refine lv_aload_n hx hb dX3_nextAhead_7 rfl (lv_at hl 2 rfl) ?_
  refine gn4_9 hx hb hts hi3_nextAhead_4 hown hK hW ha1 (nf_31 hN) dX3_nextAhead_8 ?_
  replace hF := ob hF
  obtain ⟨r1, q2, hF⟩ := hF
  refine k_q (va_runV (As := [.int (S 408 a1), .int (S 409 a1)]) (rest := []) ⟨hx, hb, hml, hown, hts⟩ (c3_nearestBow l me (S 408 a1) (S 409 a1) hme q2) (cwV 2 hts gX3_nextAhead_X3_nearestBow rfl rfl rfl (by decide +kernel) ⟨Nat.le_of_ble_eq_true rfl, Nat.le_of_ble_eq_true rfl⟩) (k_preV hW hK hN hme (EE_3 cA ad S P M me) rfl) rfl rfl hl.1 rfl (lv_room (Nat.le_of_ble_eq_true rfl)) dX3_nextAhead_11 ⟨Nat.le_of_ble_eq_true rfl, Nat.le_of_ble_eq_true rfl⟩) hS (fun H locs hW hS hr1 => ?_)
  refine q_astore_n (lv' := [(3, va_rf (r1.map (ad 4))), (2, .null), (0, .ref (ad 3 me)), (1, .ref (ad 4 a1))]) hx hb dX3_nextAhead_14 rfl hl (by decide) rfl ?_
  clear hl; intro ls hl
  refine w3_nextAhead_15 C hK hN a1 ha1 (hE := ?_) FU none r1 _ _ _ q_none hr1 hF hW hS (lv_sub hl [3, 1, 0] rfl)
  intro w5 H locs ls hw5 hF hW hS hl
  refine q_aload_n hx hb dX3_nextAhead_40 rfl (lv_at hl 0 rfl) ?_
  have hq1 := Option.some.inj hF
  subst hq1
  exact e_q (v := w5) hx hb hr hlk hK hN hW hS hw5 dX3_nextAhead_41

set_option maxHeartbeats 4000000 in
set_option maxRecDepth 100000 in
theorem c3_nextAhead (l : Launch) {D : va_G} {cA : Nat → ClassId} {z : Nat} {ad : Nat → Nat → Nat} {N : TN} {S : TS} {P : TP} {M : TS} (me : Nat) (a1 : Nat) (hme : me < N 3) (ha1 : a1 < N 4) {v : Option Nat} (hF : f3_nextAhead S P me a1 = some v) : Met l yX3_nextAhead wsX3_nextAhead rm3_nextAhead (va_Pc [.ref (ad 3 me), .ref (ad 4 a1)] (Wl D cA z (ad, N, S, P, M))) (Qq D cA z 4 v (ad, N, S, P, M)) 0 0 (fun q => z ≤ q) := by
  refine Met.ofW (cc := cX3_nextAhead) (maxL := 4) (ret := (some (.object "FerryTerminal$Ticket"))) (by decide) rfl ?_
  intro p e s m args below meth c s₁ B hml hv
  obtain ⟨rfl, hW, hK, hN⟩ := hv
  have hl := lv_entry ([.ref (ad 3 me), .ref (ad 4 a1)]) (n := 4) (Nat.le_of_ble_eq_true rfl)
  rw [lg_entry_eq]
  generalize (lg_sl ([.ref (ad 3 me), .ref (ad 4 a1)]) ++ List.replicate (4 - (lg_sl ([.ref (ad 3 me), .ref (ad 4 a1)])).length) Slot.unset).toArray = ls at hl ⊢
  exact w3_nextAhead ⟨B.exec, B.bytes, B.returns, hml, findClass_of_methodNamed B.named, atoms_spec (ws := wsX3_nextAhead) B.pre, B.notSynchronized⟩ hK hN me a1 hme ha1 hF hW va_S.rf hl

-- 3 clearPlace
abbrev rm3_clearPlace : Room := { frames := 3, cells := 0, slots := 0, locals := 67 }
def f3_clearPlace (S : TS) (P : TP) (me : Nat) (a1 : Nat) : Option (TS × TP) :=
  (f3_nextAhead S P me a1).bind fun (r1 : Option Nat) =>
  lt (P 415 a1 0) fun (r3 : Option Nat) =>
  b2 (f3_chain S P me a1 r1 r3) fun (S4 : TS) (P5 : TP) =>
  lt (up3 P5 415 a1 0 none) fun (P7 : TP) =>
  lt (up S4 408 a1 (-1 : Int32)) fun (S8 : TS) =>
  lt (up S8 409 a1 (-1 : Int32)) fun (S9 : TS) =>
  lt (up S9 410 a1 (-1 : Int32)) fun (S10 : TS) =>
  lt (up S10 306 me ((S10 306 me) - (1 : Int32))) fun (S11 : TS) =>
  some (S11, P7)
set_option maxRecDepth 20000 in
theorem hi3_clearPlace_3 : ∀ w ∈ u_ws RX3 TX3 8, w ∈ wsX3_clearPlace := by decide +kernel
set_option maxRecDepth 20000 in
theorem hi3_clearPlace_4 : ∀ w ∈ u_ws RX4 TX4 16, w ∈ wsX3_clearPlace := by decide +kernel
set_option maxHeartbeats 4000000 in
set_option maxRecDepth 100000 in
theorem w3_clearPlace {p : Program} {l : Launch} {e : Env} {s : State} {m : MethodId} {args : Array Value} {below : List Frame} {meth : Method} {c : Code} (C : MC p s m args meth c cX3_clearPlace none 2 RX3 wsX3_clearPlace) {D : va_G} {cA : Nat → ClassId} {z : Nat} {ad : Nat → Nat → Nat} {N : TN} (hK : va_K D vwCl (tysW cA) s) (hN : NW s) {S : TS} {P : TP} {M : TS} (me : Nat) (a1 : Nat) (hme : me < N 3) (ha1 : a1 < N 4) {S' : TS} {P' : TP} (hF : f3_clearPlace S P me a1 = some (S', P'))
    {H : Heap} {ls : Array Slot} (hW : Wd D cA z ad N S P M H) {locs : List Loc} (hS : va_S (fun q => z ≤ q) s.heap H locs) (hl : lv_has ls 2 [(0, .ref (ad 3 me)), (1, .ref (ad 4 a1))]) : W p l e rm3_clearPlace s m args below meth c H locs 0 0 (MQ below (Qv D cA z (ad, N, S', P', M)) args s 0 0 (fun q => z ≤ q)) (F0 m 0 ls []) := by
  obtain ⟨hx, hb, hr, hml, hown, hts, hlk⟩ := id C
  unfold f3_clearPlace at hF
  refine lv_aload_n hx hb dX3_clearPlace_0 rfl (lv_at hl 0 rfl) ?_
  refine lv_aload_n hx hb dX3_clearPlace_1 rfl (lv_at hl 1 rfl) ?_
  refine lv_aload_n hx hb dX3_clearPlace_2 rfl (lv_at hl 0 rfl) ?_
  refine lv_aload_n hx hb dX3_clearPlace_3 rfl (lv_at hl 1 rfl) ?_
  replace hF := ob hF
  obtain ⟨r1, q2, hF⟩ := hF
  refine k_q (va_runV (As := [.ref (ad 4 a1)]) (rest := [.ref (ad 4 a1), .ref (ad 3 me)]) ⟨hx, hb, hml, hown, hts⟩ (c3_nextAhead l me a1 hme ha1 q2) (cwV 1 hts gX3_clearPlace_X3_nextAhead rfl rfl rfl (by decide +kernel) ⟨Nat.le_of_ble_eq_true rfl, Nat.le_of_ble_eq_true rfl⟩) (k_preV hW hK hN hme (EE_3 cA ad S P M me) rfl) rfl rfl hl.1 rfl (lv_room (Nat.le_of_ble_eq_true rfl)) dX3_clearPlace_4 ⟨Nat.le_of_ble_eq_true rfl, Nat.le_of_ble_eq_true rfl⟩) hS (fun H locs hW hS hr1 => ?_)
  refine lv_aload_n hx hb dX3_clearPlace_7 rfl (lv_at hl 1 rfl) ?_
  replace hF := lt_ex hF
  obtain ⟨r3, er3, hF⟩ := hF
  have hr3 : ∀ y, r3 = some y → y < N 4 := hW.v er3
  refine gn4_15 hx hb hts hi3_clearPlace_4 hown hK hW ha1 er3 (nf_38 hN) dX3_clearPlace_8 ?_
  replace hF := ob2 hF
  obtain ⟨S4, P5, q6, hF⟩ := hF
  refine k_v (va_runV (As := [.ref (ad 4 a1), va_rf (r1.map (ad 4)), va_rf (r3.map (ad 4))]) (rest := []) ⟨hx, hb, hml, hown, hts⟩ (c3_chain l me a1 r1 r3 hme ha1 hr1 hr3 q6) (cwV 3 hts gX3_clearPlace_X3_chain rfl rfl rfl (by decide +kernel) ⟨Nat.le_of_ble_eq_true rfl, Nat.le_of_ble_eq_true rfl⟩) (k_preV hW hK hN hme (EE_3 cA ad S P M me) rfl) rfl rfl hl.1 rfl (lv_room (Nat.le_of_ble_eq_true rfl)) dX3_clearPlace_11 ⟨Nat.le_of_ble_eq_true rfl, Nat.le_of_ble_eq_true rfl⟩) hS ?_
  clear hW hS; intro H locs hW hS
  refine lv_aload_n hx hb dX3_clearPlace_14 rfl (lv_at hl 1 rfl) ?_
  refine lv_null hx hb dX3_clearPlace_15 ?_
  replace hF := lt_ex hF
  obtain ⟨P7, eP7, hF⟩ := hF
  refine pn4_15 (r := none) hx hb hts hi3_clearPlace_4 hown hK hW hS ha1 q_none eP7 (nf_38 hN) dX3_clearPlace_16 ?_
  clear hW hS; intro H locs hW hS
  refine lv_aload_n hx hb dX3_clearPlace_19 rfl (lv_at hl 1 rfl) ?_
  refine lv_iconst (v := (-1 : Int32)) hx hb dX3_clearPlace_20 (by decide) ?_
  replace hF := lt_ex hF
  obtain ⟨S8, eS8, hF⟩ := hF
  refine pn4_8 hx hb hts hi3_clearPlace_4 hown hK hW hS ha1 eS8 (nf_30 hN) dX3_clearPlace_21 ?_
  clear hW hS; intro H locs hW hS
  refine lv_aload_n hx hb dX3_clearPlace_24 rfl (lv_at hl 1 rfl) ?_
  refine lv_iconst (v := (-1 : Int32)) hx hb dX3_clearPlace_25 (by decide) ?_
  replace hF := lt_ex hF
  obtain ⟨S9, eS9, hF⟩ := hF
  refine pn4_9 hx hb hts hi3_clearPlace_4 hown hK hW hS ha1 eS9 (nf_31 hN) dX3_clearPlace_26 ?_
  clear hW hS; intro H locs hW hS
  refine lv_aload_n hx hb dX3_clearPlace_29 rfl (lv_at hl 1 rfl) ?_
  refine lv_iconst (v := (-1 : Int32)) hx hb dX3_clearPlace_30 (by decide) ?_
  replace hF := lt_ex hF
  obtain ⟨S10, eS10, hF⟩ := hF
  refine pn4_10 hx hb hts hi3_clearPlace_4 hown hK hW hS ha1 eS10 (nf_32 hN) dX3_clearPlace_31 ?_
  clear hW hS; intro H locs hW hS
  refine lv_aload_n hx hb dX3_clearPlace_34 rfl (lv_at hl 0 rfl) ?_
  refine lv_dup hx hb dX3_clearPlace_35 rfl ?_
  refine g3_6 hx hb hts hi3_clearPlace_3 hown hK hW hme (hts (.fieldLink RX3 95 RX3 "standing" "I") (by decide +kernel)) dX3_clearPlace_36 ?_
  refine lv_iconst (v := (1 : Int32)) hx hb dX3_clearPlace_39 (by decide) ?_
  refine lv_isub hx hb dX3_clearPlace_40 ?_
  replace hF := lt_ex hF
  obtain ⟨S11, eS11, hF⟩ := hF
  refine p3_6 hx hb hts hi3_clearPlace_3 hown hK hW hS hme eS11 (hts (.fieldLink RX3 95 RX3 "standing" "I") (by decide +kernel)) dX3_clearPlace_41 ?_
  clear hW hS; intro H locs hW hS
  obtain ⟨hq1, hq2⟩ := Prod.mk.inj (Option.some.inj hF)
  subst hq1
  subst hq2
  exact e_v hx hb hr hlk hK hN hW hS dX3_clearPlace_44

set_option maxHeartbeats 4000000 in
set_option maxRecDepth 100000 in
theorem c3_clearPlace (l : Launch) {D : va_G} {cA : Nat → ClassId} {z : Nat} {ad : Nat → Nat → Nat} {N : TN} {S : TS} {P : TP} {M : TS} (me : Nat) (a1 : Nat) (hme : me < N 3) (ha1 : a1 < N 4) {S' : TS} {P' : TP} (hF : f3_clearPlace S P me a1 = some (S', P')) : Met l yX3_clearPlace wsX3_clearPlace rm3_clearPlace (va_Pc [.ref (ad 3 me), .ref (ad 4 a1)] (Wl D cA z (ad, N, S, P, M))) (Qv D cA z (ad, N, S', P', M)) 0 0 (fun q => z ≤ q) := by
  refine Met.ofW (cc := cX3_clearPlace) (maxL := 2) (ret := none) (by decide) rfl ?_
  intro p e s m args below meth c s₁ B hml hv
  obtain ⟨rfl, hW, hK, hN⟩ := hv
  have hl := lv_entry ([.ref (ad 3 me), .ref (ad 4 a1)]) (n := 2) (Nat.le_of_ble_eq_true rfl)
  rw [lg_entry_eq]
  generalize (lg_sl ([.ref (ad 3 me), .ref (ad 4 a1)]) ++ List.replicate (2 - (lg_sl ([.ref (ad 3 me), .ref (ad 4 a1)])).length) Slot.unset).toArray = ls at hl ⊢
  exact w3_clearPlace ⟨B.exec, B.bytes, B.returns, hml, findClass_of_methodNamed B.named, atoms_spec (ws := wsX3_clearPlace) B.pre, B.notSynchronized⟩ hK hN me a1 hme ha1 hF hW va_S.rf hl

-- 3 firstGap
abbrev rm3_firstGap : Room := { frames := 2, cells := 0, slots := 0, locals := 44 }
def f3_firstGap_11 (K : Int32 → Option (Int32)) (S : TS) (P : TP) (c0 : Nat) (c3 : Int32) : Nat → Int32 → Option Nat → Option (Int32)
  | 0, _, _ => none
  | n + 1, y4, y5 =>
    y5.elim (K y4)
    (fun (t3 : Nat) => if ((S 410 t3) - y4) < c3 then
    (lt (P 415 t3 0) fun (r4 : Option Nat) =>
    f3_firstGap_11 K S P c0 c3 n ((S 410 t3) + (S 402 t3)) r4)
    else
    (some y4))

def f3_firstGap (S : TS) (P : TP) (me : Nat) (a1 : Int32) (a2 : Int32) (a3 : Int32) : Option (Int32) :=
  (f3_nearestBow S P me a1 a2).bind fun (r1 : Option Nat) =>
  f3_firstGap_11 (fun (w5 : Int32) =>
  if ((S 303 me) - w5) < a3 then
  (some (-1 : Int32))
  else
  (some w5)) S P me a3 FU (0 : Int32) r1
set_option maxRecDepth 20000 in
theorem hi3_firstGap_3 : ∀ w ∈ u_ws RX3 TX3 8, w ∈ wsX3_firstGap := by decide +kernel
set_option maxRecDepth 20000 in
theorem hi3_firstGap_4 : ∀ w ∈ u_ws RX4 TX4 16, w ∈ wsX3_firstGap := by decide +kernel
set_option maxHeartbeats 4000000 in
set_option maxRecDepth 100000 in
theorem w3_firstGap_11 {p : Program} {l : Launch} {e : Env} {s : State} {m : MethodId} {args : Array Value} {below : List Frame} {meth : Method} {c : Code} (C : MC p s m args meth c cX3_firstGap (some .int) 6 RX3 wsX3_firstGap) {D : va_G} {cA : Nat → ClassId} {z : Nat} {ad : Nat → Nat → Nat} {N : TN} (hK : va_K D vwCl (tysW cA) s) (hN : NW s) {M : TS} {S : TS} {P : TP} (c0 : Nat) (c3 : Int32) (hc0 : c0 < N 3) {v : Int32} {K : Int32 → Option (Int32)}
    (hE : ∀ (e4 : Int32) (H : Heap) (locs : List Loc) (ls : Array Slot), K e4 = some v → Wd D cA z ad N S P M H → va_S (fun q => z ≤ q) s.heap H locs → lv_has ls 6 [(0, .ref (ad 3 c0)), (3, .int c3), (4, .int e4)] → W p l e rm3_firstGap s m args below meth c H locs 0 0 (MQ below (Qi D cA z v (ad, N, S, P, M)) args s 0 0 (fun q => z ≤ q)) (F0 m 54 ls [])) :
    ∀ (n : Nat) (y4 : Int32) (y5 : Option Nat) (H : Heap) (locs : List Loc) (ls : Array Slot), (∀ y, y5 = some y → y < N 4) → f3_firstGap_11 K S P c0 c3 n y4 y5 = some v → Wd D cA z ad N S P M H → va_S (fun q => z ≤ q) s.heap H locs → lv_has ls 6 [(0, .ref (ad 3 c0)), (3, .int c3), (4, .int y4), (5, va_rf (y5.map (ad 4)))] → W p l e rm3_firstGap s m args below meth c H locs 0 0 (MQ below (Qi D cA z v (ad, N, S, P, M)) args s 0 0 (fun q => z ≤ q)) (F0 m 11 ls []) := by
  obtain ⟨hx, hb, hr, hml, hown, hts, hlk⟩ := id C
  intro n
  induction n with
  | zero => intro y4 y5 H locs ls hy5 hF; cases hF
  | succ n ih =>
    intro y4 y5 H locs ls hy5 hF hW hS hl
    rw [f3_firstGap_11] at hF
    refine q_aload hx hb dX3_firstGap_11 (lv_at hl 3 rfl) ?_
    refine q_ifnull (tgt := 54) hx hb dX3_firstGap_13 (by decide) (fun hc => ?_) (fun t3 hc => ?_)
    · subst hc
      replace hF := el_n hF
      replace hl : lv_has ls 6 [(0, .ref (ad 3 c0)), (3, .int c3), (4, .int y4), (5, .null)] := hl
      exact hE y4 _ _ _ hF hW hS (lv_sub hl [0, 1, 2] rfl)
    · subst hc
      replace hF := el_s hF
      have ht3 := hy5 t3 rfl
      replace hl : lv_has ls 6 [(0, .ref (ad 3 c0)), (3, .int c3), (4, .int y4), (5, .ref (ad 4 t3))] := hl
      refine lv_aload hx hb dX3_firstGap_16 (lv_at hl 3 rfl) ?_
      refine gn4_10 hx hb hts hi3_firstGap_4 hown hK hW ht3 (nf_32 hN) dX3_firstGap_18 ?_
      refine lv_iload hx hb dX3_firstGap_21 (lv_at hl 2 rfl) ?_
      refine lv_isub hx hb dX3_firstGap_23 ?_
      refine lv_iload_n hx hb dX3_firstGap_24 rfl (lv_at hl 1 rfl) ?_
      refine lv_icmp_lt (tgt := 31) hx hb dX3_firstGap_25 (by decide) (fun hc => ?_) (fun hc => ?_)
      · replace hF := it_t hF hc
        refine lv_aload hx hb dX3_firstGap_31 (lv_at hl 3 rfl) ?_
        refine gn4_10 hx hb hts hi3_firstGap_4 hown hK hW ht3 (nf_32 hN) dX3_firstGap_33 ?_
        refine lv_aload hx hb dX3_firstGap_36 (lv_at hl 3 rfl) ?_
        refine gn4_2 hx hb hts hi3_firstGap_4 hown hK hW ht3 (nf_23 hN) dX3_firstGap_38 ?_
        refine lv_iadd hx hb dX3_firstGap_41 ?_
        refine lv_istore (lv' := [(4, .int ((S 410 t3) + (S 402 t3))), (0, .ref (ad 3 c0)), (3, .int c3), (5, .ref (ad 4 t3))]) hx hb dX3_firstGap_42 hl (by decide) rfl ?_
        clear hl; intro ls hl
        refine lv_aload hx hb dX3_firstGap_44 (lv_at hl 3 rfl) ?_
        replace hF := lt_ex hF
        obtain ⟨r4, er4, hF⟩ := hF
        have hr4 : ∀ y, r4 = some y → y < N 4 := hW.v er4
        refine gn4_15 hx hb hts hi3_firstGap_4 hown hK hW ht3 er4 (nf_38 hN) dX3_firstGap_46 ?_
        refine q_astore (lv' := [(5, va_rf (r4.map (ad 4))), (4, .int ((S 410 t3) + (S 402 t3))), (0, .ref (ad 3 c0)), (3, .int c3)]) hx hb dX3_firstGap_49 hl (by decide) rfl ?_
        clear hl; intro ls hl
        refine lv_goto (tgt := 11) hx hb dX3_firstGap_51 (by decide) ?_
        exact ih ((S 410 t3) + (S 402 t3)) r4 _ _ _ hr4 hF hW hS (lv_sub hl [2, 3, 1, 0] rfl)
      · replace hF := it_f hF hc
        refine lv_iload hx hb dX3_firstGap_28 (lv_at hl 2 rfl) ?_
        have hq1 := Option.some.inj hF
        subst hq1
        exact e_i hx hb hr hlk hK hN hW hS dX3_firstGap_30

set_option maxHeartbeats 4000000 in
set_option maxRecDepth 100000 in
theorem w3_firstGap {p : Program} {l : Launch} {e : Env} {s : State} {m : MethodId} {args : Array Value} {below : List Frame} {meth : Method} {c : Code} (C : MC p s m args meth c cX3_firstGap (some .int) 6 RX3 wsX3_firstGap) {D : va_G} {cA : Nat → ClassId} {z : Nat} {ad : Nat → Nat → Nat} {N : TN} (hK : va_K D vwCl (tysW cA) s) (hN : NW s) {S : TS} {P : TP} {M : TS} (me : Nat) (a1 : Int32) (a2 : Int32) (a3 : Int32) (hme : me < N 3) {v : Int32} (hF : f3_firstGap S P me a1 a2 a3 = some v)
    {H : Heap} {ls : Array Slot} (hW : Wd D cA z ad N S P M H) {locs : List Loc} (hS : va_S (fun q => z ≤ q) s.heap H locs) (hl : lv_has ls 6 [(0, .ref (ad 3 me)), (1, .int a1), (2, .int a2), (3, .int a3)]) : W p l e rm3_firstGap s m args below meth c H locs 0 0 (MQ below (Qi D cA z v (ad, N, S, P, M)) args s 0 0 (fun q => z ≤ q)) (F0 m 0 ls []) := by
  obtain ⟨hx, hb, hr, hml, hown, hts, hlk⟩ := id C
  unfold f3_firstGap at hF
  refine lv_iconst (v := (0 : Int32)) hx hb dX3_firstGap_0 (by decide) ?_
  refine lv_istore (lv' := [(4, .int (0 : Int32)), (0, .ref (ad 3 me)), (1, .int a1), (2, .int a2), (3, .int a3)]) hx hb dX3_firstGap_1 hl (by decide) rfl ?_
  clear hl; intro ls hl
  refine lv_aload_n hx hb dX3_firstGap_3 rfl (lv_at hl 1 rfl) ?_
  refine lv_iload_n hx hb dX3_firstGap_4 rfl (lv_at hl 2 rfl) ?_
  refine lv_iload_n hx hb dX3_firstGap_5 rfl (lv_at hl 3 rfl) ?_
  replace hF := ob hF
  obtain ⟨r1, q2, hF⟩ := hF
  refine k_q (va_runV (As := [.int a1, .int a2]) (rest := []) ⟨hx, hb, hml, hown, hts⟩ (c3_nearestBow l me a1 a2 hme q2) (cwV 2 hts gX3_firstGap_X3_nearestBow rfl rfl rfl (by decide +kernel) ⟨Nat.le_of_ble_eq_true rfl, Nat.le_of_ble_eq_true rfl⟩) (k_preV hW hK hN hme (EE_3 cA ad S P M me) rfl) rfl rfl hl.1 rfl (lv_room (Nat.le_of_ble_eq_true rfl)) dX3_firstGap_6 ⟨Nat.le_of_ble_eq_true rfl, Nat.le_of_ble_eq_true rfl⟩) hS (fun H locs hW hS hr1 => ?_)
  refine q_astore (lv' := [(5, va_rf (r1.map (ad 4))), (4, .int (0 : Int32)), (0, .ref (ad 3 me)), (1, .int a1), (2, .int a2), (3, .int a3)]) hx hb dX3_firstGap_9 hl (by decide) rfl ?_
  clear hl; intro ls hl
  refine w3_firstGap_11 C hK hN me a3 hme (hE := ?_) FU (0 : Int32) r1 _ _ _ hr1 hF hW hS (lv_sub hl [2, 5, 1, 0] rfl)
  intro w5 H locs ls hF hW hS hl
  refine lv_aload_n hx hb dX3_firstGap_54 rfl (lv_at hl 0 rfl) ?_
  refine g3_3 hx hb hts hi3_firstGap_3 hown hK hW hme (hts (.fieldLink RX3 21 RX3 "length" "I") (by decide +kernel)) dX3_firstGap_55 ?_
  refine lv_iload hx hb dX3_firstGap_58 (lv_at hl 2 rfl) ?_
  refine lv_isub hx hb dX3_firstGap_60 ?_
  refine lv_iload_n hx hb dX3_firstGap_61 rfl (lv_at hl 1 rfl) ?_
  refine lv_icmp_lt (tgt := 70) hx hb dX3_firstGap_62 (by decide) (fun hc => ?_) (fun hc => ?_)
  · replace hF := it_t hF hc
    refine lv_iconst (v := (-1 : Int32)) hx hb dX3_firstGap_70 (by decide) ?_
    have hq1 := Option.some.inj hF
    subst hq1
    exact e_i hx hb hr hlk hK hN hW hS dX3_firstGap_71
  · replace hF := it_f hF hc
    refine lv_iload hx hb dX3_firstGap_65 (lv_at hl 2 rfl) ?_
    refine lv_goto (tgt := 71) hx hb dX3_firstGap_67 (by decide) ?_
    have hq1 := Option.some.inj hF
    subst hq1
    exact e_i hx hb hr hlk hK hN hW hS dX3_firstGap_71

set_option maxHeartbeats 4000000 in
set_option maxRecDepth 100000 in
theorem c3_firstGap (l : Launch) {D : va_G} {cA : Nat → ClassId} {z : Nat} {ad : Nat → Nat → Nat} {N : TN} {S : TS} {P : TP} {M : TS} (me : Nat) (a1 : Int32) (a2 : Int32) (a3 : Int32) (hme : me < N 3) {v : Int32} (hF : f3_firstGap S P me a1 a2 a3 = some v) : Met l yX3_firstGap wsX3_firstGap rm3_firstGap (va_Pc [.ref (ad 3 me), .int a1, .int a2, .int a3] (Wl D cA z (ad, N, S, P, M))) (Qi D cA z v (ad, N, S, P, M)) 0 0 (fun q => z ≤ q) := by
  refine Met.ofW (cc := cX3_firstGap) (maxL := 6) (ret := (some .int)) (by decide) rfl ?_
  intro p e s m args below meth c s₁ B hml hv
  obtain ⟨rfl, hW, hK, hN⟩ := hv
  have hl := lv_entry ([.ref (ad 3 me), .int a1, .int a2, .int a3]) (n := 6) (Nat.le_of_ble_eq_true rfl)
  rw [lg_entry_eq]
  generalize (lg_sl ([.ref (ad 3 me), .int a1, .int a2, .int a3]) ++ List.replicate (6 - (lg_sl ([.ref (ad 3 me), .int a1, .int a2, .int a3])).length) Slot.unset).toArray = ls at hl ⊢
  exact w3_firstGap ⟨B.exec, B.bytes, B.returns, hml, findClass_of_methodNamed B.named, atoms_spec (ws := wsX3_firstGap) B.pre, B.notSynchronized⟩ hK hN me a1 a2 a3 hme hF hW va_S.rf hl

-- 3 freePlaces
abbrev rm3_freePlaces : Room := { frames := 2, cells := 0, slots := 0, locals := 44 }
def f3_freePlaces_13 (K : Int32 → Option (Int32)) (S : TS) (P : TP) : Nat → Int32 → Option Nat → Option (Int32)
  | 0, _, _ => none
  | n + 1, y3, y4 =>
    y4.elim (K y3)
    (fun (t3 : Nat) => lt (P 415 t3 0) fun (r4 : Option Nat) =>
    f3_freePlaces_13 K S P n (y3 - (S 402 t3)) r4)

def f3_freePlaces (S : TS) (P : TP) (me : Nat) (a1 : Int32) (a2 : Int32) : Option (Int32) :=
  (f3_nearestBow S P me a1 a2).bind fun (r1 : Option Nat) =>
  f3_freePlaces_13 (fun (w5 : Int32) =>
  some w5) S P FU (S 303 me) r1
set_option maxRecDepth 20000 in
theorem hi3_freePlaces_3 : ∀ w ∈ u_ws RX3 TX3 8, w ∈ wsX3_freePlaces := by decide +kernel
set_option maxRecDepth 20000 in
theorem hi3_freePlaces_4 : ∀ w ∈ u_ws RX4 TX4 16, w ∈ wsX3_freePlaces := by decide +kernel
set_option maxHeartbeats 4000000 in
set_option maxRecDepth 100000 in
theorem w3_freePlaces_13 {p : Program} {l : Launch} {e : Env} {s : State} {m : MethodId} {args : Array Value} {below : List Frame} {meth : Method} {c : Code} (C : MC p s m args meth c cX3_freePlaces (some .int) 5 RX3 wsX3_freePlaces) {D : va_G} {cA : Nat → ClassId} {z : Nat} {ad : Nat → Nat → Nat} {N : TN} (hK : va_K D vwCl (tysW cA) s) (hN : NW s) {M : TS} {S : TS} {P : TP} {v : Int32} {K : Int32 → Option (Int32)}
    (hE : ∀ (e3 : Int32) (H : Heap) (locs : List Loc) (ls : Array Slot), K e3 = some v → Wd D cA z ad N S P M H → va_S (fun q => z ≤ q) s.heap H locs → lv_has ls 5 [(3, .int e3)] → W p l e rm3_freePlaces s m args below meth c H locs 0 0 (MQ below (Qi D cA z v (ad, N, S, P, M)) args s 0 0 (fun q => z ≤ q)) (F0 m 36 ls [])) :
    ∀ (n : Nat) (y3 : Int32) (y4 : Option Nat) (H : Heap) (locs : List Loc) (ls : Array Slot), (∀ y, y4 = some y → y < N 4) → f3_freePlaces_13 K S P n y3 y4 = some v → Wd D cA z ad N S P M H → va_S (fun q => z ≤ q) s.heap H locs → lv_has ls 5 [(3, .int y3), (4, va_rf (y4.map (ad 4)))] → W p l e rm3_freePlaces s m args below meth c H locs 0 0 (MQ below (Qi D cA z v (ad, N, S, P, M)) args s 0 0 (fun q => z ≤ q)) (F0 m 13 ls []) := by
  obtain ⟨hx, hb, hr, hml, hown, hts, hlk⟩ := id C
  intro n
  induction n with
  | zero => intro y3 y4 H locs ls hy4 hF; cases hF
  | succ n ih =>
    intro y3 y4 H locs ls hy4 hF hW hS hl
    rw [f3_freePlaces_13] at hF
    refine q_aload hx hb dX3_freePlaces_13 (lv_at hl 1 rfl) ?_
    refine q_ifnull (tgt := 36) hx hb dX3_freePlaces_15 (by decide) (fun hc => ?_) (fun t3 hc => ?_)
    · subst hc
      replace hF := el_n hF
      replace hl : lv_has ls 5 [(3, .int y3), (4, .null)] := hl
      exact hE y3 _ _ _ hF hW hS (lv_sub hl [0] rfl)
    · subst hc
      replace hF := el_s hF
      have ht3 := hy4 t3 rfl
      replace hl : lv_has ls 5 [(3, .int y3), (4, .ref (ad 4 t3))] := hl
      refine lv_iload_n hx hb dX3_freePlaces_18 rfl (lv_at hl 0 rfl) ?_
      refine lv_aload hx hb dX3_freePlaces_19 (lv_at hl 1 rfl) ?_
      refine gn4_2 hx hb hts hi3_freePlaces_4 hown hK hW ht3 (nf_23 hN) dX3_freePlaces_21 ?_
      refine lv_isub hx hb dX3_freePlaces_24 ?_
      refine lv_istore_n (lv' := [(3, .int (y3 - (S 402 t3))), (4, .ref (ad 4 t3))]) hx hb dX3_freePlaces_25 rfl hl (by decide) rfl ?_
      clear hl; intro ls hl
      refine lv_aload hx hb dX3_freePlaces_26 (lv_at hl 1 rfl) ?_
      replace hF := lt_ex hF
      obtain ⟨r4, er4, hF⟩ := hF
      have hr4 : ∀ y, r4 = some y → y < N 4 := hW.v er4
      refine gn4_15 hx hb hts hi3_freePlaces_4 hown hK hW ht3 er4 (nf_38 hN) dX3_freePlaces_28 ?_
      refine q_astore (lv' := [(4, va_rf (r4.map (ad 4))), (3, .int (y3 - (S 402 t3)))]) hx hb dX3_freePlaces_31 hl (by decide) rfl ?_
      clear hl; intro ls hl
      refine lv_goto (tgt := 13) hx hb dX3_freePlaces_33 (by decide) ?_
      exact ih (y3 - (S 402 t3)) r4 _ _ _ hr4 hF hW hS (lv_sub hl [1, 0] rfl)

set_option maxHeartbeats 4000000 in
set_option maxRecDepth 100000 in
theorem w3_freePlaces {p : Program} {l : Launch} {e : Env} {s : State} {m : MethodId} {args : Array Value} {below : List Frame} {meth : Method} {c : Code} (C : MC p s m args meth c cX3_freePlaces (some .int) 5 RX3 wsX3_freePlaces) {D : va_G} {cA : Nat → ClassId} {z : Nat} {ad : Nat → Nat → Nat} {N : TN} (hK : va_K D vwCl (tysW cA) s) (hN : NW s) {S : TS} {P : TP} {M : TS} (me : Nat) (a1 : Int32) (a2 : Int32) (hme : me < N 3) {v : Int32} (hF : f3_freePlaces S P me a1 a2 = some v)
    {H : Heap} {ls : Array Slot} (hW : Wd D cA z ad N S P M H) {locs : List Loc} (hS : va_S (fun q => z ≤ q) s.heap H locs) (hl : lv_has ls 5 [(0, .ref (ad 3 me)), (1, .int a1), (2, .int a2)]) : W p l e rm3_freePlaces s m args below meth c H locs 0 0 (MQ below (Qi D cA z v (ad, N, S, P, M)) args s 0 0 (fun q => z ≤ q)) (F0 m 0 ls []) := by
  obtain ⟨hx, hb, hr, hml, hown, hts, hlk⟩ := id C
  unfold f3_freePlaces at hF
  refine lv_aload_n hx hb dX3_freePlaces_0 rfl (lv_at hl 0 rfl) ?_
  refine g3_3 hx hb hts hi3_freePlaces_3 hown hK hW hme (hts (.fieldLink RX3 21 RX3 "length" "I") (by decide +kernel)) dX3_freePlaces_1 ?_
  refine lv_istore_n (lv' := [(3, .int (S 303 me)), (0, .ref (ad 3 me)), (1, .int a1), (2, .int a2)]) hx hb dX3_freePlaces_4 rfl hl (by decide) rfl ?_
  clear hl; intro ls hl
  refine lv_aload_n hx hb dX3_freePlaces_5 rfl (lv_at hl 1 rfl) ?_
  refine lv_iload_n hx hb dX3_freePlaces_6 rfl (lv_at hl 2 rfl) ?_
  refine lv_iload_n hx hb dX3_freePlaces_7 rfl (lv_at hl 3 rfl) ?_
  replace hF := ob hF
  obtain ⟨r1, q2, hF⟩ := hF
  refine k_q (va_runV (As := [.int a1, .int a2]) (rest := []) ⟨hx, hb, hml, hown, hts⟩ (c3_nearestBow l me a1 a2 hme q2) (cwV 2 hts gX3_freePlaces_X3_nearestBow rfl rfl rfl (by decide +kernel) ⟨Nat.le_of_ble_eq_true rfl, Nat.le_of_ble_eq_true rfl⟩) (k_preV hW hK hN hme (EE_3 cA ad S P M me) rfl) rfl rfl hl.1 rfl (lv_room (Nat.le_of_ble_eq_true rfl)) dX3_freePlaces_8 ⟨Nat.le_of_ble_eq_true rfl, Nat.le_of_ble_eq_true rfl⟩) hS (fun H locs hW hS hr1 => ?_)
  refine q_astore (lv' := [(4, va_rf (r1.map (ad 4))), (3, .int (S 303 me)), (0, .ref (ad 3 me)), (1, .int a1), (2, .int a2)]) hx hb dX3_freePlaces_11 hl (by decide) rfl ?_
  clear hl; intro ls hl
  refine w3_freePlaces_13 C hK hN  (hE := ?_) FU (S 303 me) r1 _ _ _ hr1 hF hW hS (lv_sub hl [1, 0] rfl)
  intro w5 H locs ls hF hW hS hl
  refine lv_iload_n hx hb dX3_freePlaces_36 rfl (lv_at hl 0 rfl) ?_
  have hq1 := Option.some.inj hF
  subst hq1
  exact e_i hx hb hr hlk hK hN hW hS dX3_freePlaces_37

set_option maxHeartbeats 4000000 in
set_option maxRecDepth 100000 in
theorem c3_freePlaces (l : Launch) {D : va_G} {cA : Nat → ClassId} {z : Nat} {ad : Nat → Nat → Nat} {N : TN} {S : TS} {P : TP} {M : TS} (me : Nat) (a1 : Int32) (a2 : Int32) (hme : me < N 3) {v : Int32} (hF : f3_freePlaces S P me a1 a2 = some v) : Met l yX3_freePlaces wsX3_freePlaces rm3_freePlaces (va_Pc [.ref (ad 3 me), .int a1, .int a2] (Wl D cA z (ad, N, S, P, M))) (Qi D cA z v (ad, N, S, P, M)) 0 0 (fun q => z ≤ q) := by
  refine Met.ofW (cc := cX3_freePlaces) (maxL := 5) (ret := (some .int)) (by decide) rfl ?_
  intro p e s m args below meth c s₁ B hml hv
  obtain ⟨rfl, hW, hK, hN⟩ := hv
  have hl := lv_entry ([.ref (ad 3 me), .int a1, .int a2]) (n := 5) (Nat.le_of_ble_eq_true rfl)
  rw [lg_entry_eq]
  generalize (lg_sl ([.ref (ad 3 me), .int a1, .int a2]) ++ List.replicate (5 - (lg_sl ([.ref (ad 3 me), .int a1, .int a2])).length) Slot.unset).toArray = ls at hl ⊢
  exact w3_freePlaces ⟨B.exec, B.bytes, B.returns, hml, findClass_of_methodNamed B.named, atoms_spec (ws := wsX3_freePlaces) B.pre, B.notSynchronized⟩ hK hN me a1 a2 hme hF hW va_S.rf hl

-- 3 init
abbrev rm3_init : Room := { frames := 1, cells := 1, slots := 24, locals := 20 }
def f3_init (S : TS) (P : TP) (N : TN) (me : Nat) (a1 : Int32) (a2 : Int32) (a3 : Int32) (a4 : Int32) (a5 : Int32) : Option (TS × TP × TN) :=
  lt (up S 300 me a1) fun (S1 : TS) =>
  lt (up S1 301 me a2) fun (S2 : TS) =>
  lt (up S2 302 me a3) fun (S3 : TS) =>
  lt (up S3 303 me a4) fun (S4 : TS) =>
  if a5 = 0 ∨ a5 = 1 then
  (lt (up S4 304 me a5) fun (S6 : TS) =>
  if (a2 * a3) < 0 then none else
  if 24 < (a2 * a3).toNatClampNeg then none else
  lt (upN N 14) fun (N7 : TN) =>
  lt (up S6 1499 (N 14) (a2 * a3)) fun (S8 : TS) =>
  lt (clrP P 14 (N 14)) fun (P9 : TP) =>
  lt (up3 P9 307 me 0 (some (N 14))) fun (P12 : TP) =>
  some (S8, P12, N7))
  else none
set_option maxRecDepth 20000 in
theorem hi3_init_3 : ∀ w ∈ u_ws RX3 TX3 8, w ∈ wsX3_init := by decide +kernel
set_option maxHeartbeats 4000000 in
set_option maxRecDepth 100000 in
theorem w3_init {p : Program} {l : Launch} {e : Env} {s : State} {m : MethodId} {args : Array Value} {below : List Frame} {meth : Method} {c : Code} (C : MC p s m args meth c cX3_init none 6 RX3 wsX3_init) {D : va_G} {cA : Nat → ClassId} {z : Nat} {ad : Nat → Nat → Nat} {N : TN} (hK : va_K D vwCl (tysW cA) s) (hN : NW s) {S : TS} {P : TP} {M : TS} (me : Nat) (a1 : Int32) (a2 : Int32) (a3 : Int32) (a4 : Int32) (a5 : Int32) (hme : me < N 3) {S' : TS} {P' : TP} {N' : TN} (hini : meth.name = "<init>") (hF : f3_init S P N me a1 a2 a3 a4 a5 = some (S', P', N'))
    {H : Heap} {ls : Array Slot} (hW : Wd D cA z ad N S P M H) {locs : List Loc} (hS : va_S (fun q => z ≤ q) s.heap H locs) (hl : lv_has ls 6 [(0, .ref (ad 3 me)), (1, .int a1), (2, .int a2), (3, .int a3), (4, .int a4), (5, .int a5)]) : W p l e rm3_init s m args below meth c H locs 0 0 (MQ below (Qva D cA z ad N N' S' P' M) args s 1 24 (fun q => z ≤ q)) (F0 m 0 ls []) := by
  obtain ⟨hx, hb, hr, hml, hown, hts, hlk⟩ := id C
  unfold f3_init at hF
  refine lv_aload_n hx hb dX3_init_0 rfl (lv_at hl 0 rfl) ?_
  refine W.objInit hx hb hown (hts (.methodLink RX3 3 objectInit) (by decide +kernel)) (hts (.instanceMethod objectInit) (by decide +kernel)) (hts (.code objectInit ⟨#[0xb1]⟩ 1 none) (by decide +kernel)) rfl (by rw [hml]; exact hl.1) rfl dX3_init_1 (Nat.le_of_ble_eq_true rfl) (Nat.le_of_ble_eq_true rfl) ?_
  refine W.eq (g2 := F0 m 4 ls []) rfl ?_
  refine lv_aload_n hx hb dX3_init_4 rfl (lv_at hl 0 rfl) ?_
  refine lv_iload_n hx hb dX3_init_5 rfl (lv_at hl 1 rfl) ?_
  replace hF := lt_ex hF
  obtain ⟨S1, eS1, hF⟩ := hF
  refine p3_0 hx hb hts hi3_init_3 hown hK hW hS hme eS1 hini (hts (.fieldLink RX3 9 RX3 "number" "I") (by decide +kernel)) dX3_init_6 ?_
  clear hW hS; intro H locs hW hS
  refine lv_aload_n hx hb dX3_init_9 rfl (lv_at hl 0 rfl) ?_
  refine lv_iload_n hx hb dX3_init_10 rfl (lv_at hl 2 rfl) ?_
  replace hF := lt_ex hF
  obtain ⟨S2, eS2, hF⟩ := hF
  refine p3_1 hx hb hts hi3_init_3 hown hK hW hS hme eS2 hini (hts (.fieldLink RX3 15 RX3 "decks" "I") (by decide +kernel)) dX3_init_11 ?_
  clear hW hS; intro H locs hW hS
  refine lv_aload_n hx hb dX3_init_14 rfl (lv_at hl 0 rfl) ?_
  refine lv_iload_n hx hb dX3_init_15 rfl (lv_at hl 3 rfl) ?_
  replace hF := lt_ex hF
  obtain ⟨S3, eS3, hF⟩ := hF
  refine p3_2 hx hb hts hi3_init_3 hown hK hW hS hme eS3 hini (hts (.fieldLink RX3 18 RX3 "lanes" "I") (by decide +kernel)) dX3_init_16 ?_
  clear hW hS; intro H locs hW hS
  refine lv_aload_n hx hb dX3_init_19 rfl (lv_at hl 0 rfl) ?_
  refine lv_iload hx hb dX3_init_20 (lv_at hl 4 rfl) ?_
  replace hF := lt_ex hF
  obtain ⟨S4, eS4, hF⟩ := hF
  refine p3_3 hx hb hts hi3_init_3 hown hK hW hS hme eS4 hini (hts (.fieldLink RX3 21 RX3 "length" "I") (by decide +kernel)) dX3_init_22 ?_
  clear hW hS; intro H locs hW hS
  refine lv_aload_n hx hb dX3_init_25 rfl (lv_at hl 0 rfl) ?_
  refine lv_iload hx hb dX3_init_26 (lv_at hl 5 rfl) ?_
  replace hF := it_ok hF
  obtain ⟨hz5, hF⟩ := hF
  replace hF := lt_ex hF
  obtain ⟨S6, eS6, hF⟩ := hF
  refine p3_4 hx hb hts hi3_init_3 hown hK hW hS hme hz5 eS6 hini (hts (.fieldLink RX3 24 RX3 "half" "Z") (by decide +kernel)) dX3_init_28 ?_
  clear hW hS; intro H locs hW hS
  refine lv_aload_n hx hb dX3_init_31 rfl (lv_at hl 0 rfl) ?_
  refine lv_iload_n hx hb dX3_init_32 rfl (lv_at hl 2 rfl) ?_
  refine lv_iload_n hx hb dX3_init_33 rfl (lv_at hl 3 rfl) ?_
  refine lv_imul hx hb dX3_init_34 ?_
  replace hF := it_no hF
  obtain ⟨hn0, hF⟩ := hF
  replace hF := it_no hF
  obtain ⟨hn24, hF⟩ := hF
  replace hF := lt_ex hF
  obtain ⟨N7, eN7, hF⟩ := hF
  replace hF := lt_ex hF
  obtain ⟨S8, eS8, hF⟩ := hF
  replace hF := lt_ex hF
  obtain ⟨P9, eP9, hF⟩ := hF
  have h0fx := hW
  refine r_newA hx hb hown (hts (.classLink RX3 28 RX4) (by decide +kernel)) hN hK hW hS hn0 hn24 eN7 eS8 eP9 (Nat.le_of_ble_eq_true rfl) (Nat.le_of_ble_eq_true rfl) dX3_init_35 (fun H ad10 hgad10 hmad10 hW hS => ?_)
  have eaad10_0 : ad 3 me = ad10 3 me := (hgad10 _ _ hme).symm
  have haad10_0 : me < N7 3 := Nat.lt_of_lt_of_le hme (hmad10 3)
  try rw [eaad10_0] at hl
  have hg_ad10 : ∀ k i, i < N k → ad10 k i = ad k i := fun k i h => (hgad10 k i (Nat.lt_of_lt_of_le h ((fun _ => Nat.le_refl _) k))).trans ((fun _ _ _ => rfl) k i h)
  have hmm_ad10 : ∀ k, N k ≤ N7 k := fun k => Nat.le_trans ((fun _ => Nat.le_refl _) k) (hmad10 k)
  have hn11 : N 14 < N7 14 := by rw [eN7]; exact upN_lt
  refine W.eq (g2 := F0 m 38 ls [.ref (ad10 14 (N 14)), .ref (ad10 3 me)]) (by first | rfl | (rw [eaad10_0]; try rfl)) ?_
  replace hF := lt_ex hF
  obtain ⟨P12, eP12, hF⟩ := hF
  refine p3_7 (r := (some (N 14))) hx hb hts hi3_init_3 hown hK hW hS haad10_0 (q_some hn11) eP12 hini (hts (.fieldLink RX3 30 RX3 "firsts" "[LFerryTerminal$Ticket;") (by decide +kernel)) dX3_init_38 ?_
  clear hW hS; intro H locs hW hS
  obtain ⟨hq1, hq2⟩ := Prod.mk.inj (Option.some.inj hF)
  obtain ⟨hq2, hq3⟩ := Prod.mk.inj hq2
  subst hq1
  subst hq2
  subst hq3
  exact e_va hx hb hr hlk hK hN hW hS  hg_ad10 hmm_ad10 dX3_init_41

set_option maxHeartbeats 4000000 in
set_option maxRecDepth 100000 in
theorem c3_init (l : Launch) {D : va_G} {cA : Nat → ClassId} {z : Nat} {ad : Nat → Nat → Nat} {N : TN} {S : TS} {P : TP} {M : TS} (me : Nat) (a1 : Int32) (a2 : Int32) (a3 : Int32) (a4 : Int32) (a5 : Int32) (hme : me < N 3) {S' : TS} {P' : TP} {N' : TN} (hF : f3_init S P N me a1 a2 a3 a4 a5 = some (S', P', N')) : Met l yX3_init wsX3_init rm3_init (va_Pc [.ref (ad 3 me), .int a1, .int a2, .int a3, .int a4, .int a5] (Wl D cA z (ad, N, S, P, M))) (Qva D cA z ad N N' S' P' M) 1 24 (fun q => z ≤ q) := by
  refine Met.ofW (cc := cX3_init) (maxL := 6) (ret := none) (by decide) rfl ?_
  intro p e s m args below meth c s₁ B hml hv
  obtain ⟨rfl, hW, hK, hN⟩ := hv
  have hl := lv_entry ([.ref (ad 3 me), .int a1, .int a2, .int a3, .int a4, .int a5]) (n := 6) (Nat.le_of_ble_eq_true rfl)
  rw [lg_entry_eq]
  generalize (lg_sl ([.ref (ad 3 me), .int a1, .int a2, .int a3, .int a4, .int a5]) ++ List.replicate (6 - (lg_sl ([.ref (ad 3 me), .int a1, .int a2, .int a3, .int a4, .int a5])).length) Slot.unset).toArray = ls at hl ⊢
  have hini : meth.name = "<init>" := (name_of_methodNamed B.named B.method).1
  exact w3_init ⟨B.exec, B.bytes, B.returns, hml, findClass_of_methodNamed B.named, atoms_spec (ws := wsX3_init) B.pre, B.notSynchronized⟩ hK hN me a1 a2 a3 a4 a5 hme hini hF hW va_S.rf hl

