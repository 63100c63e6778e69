/-! shipOf -/
section SHIPOF
variable {k ns nc nv nt tn bn : Nat} {ch : Nat → Nat → List Nat} {S : TS} {P : TP} {N : TN} {M : TS}
theorem so91 (hC : CI k ns nc nv nt tn ch S P N) (hM : MI ns nc nv nt tn bn S P M) {h : Nat} (hh : h < ns) (K : Int32 → Option Int32) : ∀ (n i : Nat), i ≤ nc → nc < i + n → f6_shipOf_91 K M (nI h) n (nI (cnt (fun c => decide (cs P c = h)) i)) (nI i) = K (nI (cnt (fun c => decide (cs P c = h)) nc)) := by
  have hn := hC.nc1
  have hns := hC.ns1
  intro n
  induction n with
  | zero => intro i h1 h2; omega
  | succ n ih =>
    intro i h1 h2
    rw [f6_shipOf_91, hM.cnt.2.1]
    rcases Nat.lt_or_ge i nc with hi | hi
    · have hcs := (hC.cab i hi).2.2.1
      rw [if_neg (nI_ge hi (by omega)), ix_nI (by omega) (by decide)]
      simp only [Option.bind_some, lt, (hM.cab i hi).1, show (nI (cs P i) = nI h) = (cs P i = h) from propext (nI_eq (by omega) (by omega)), nI_1]
      rw [← ih (i + 1) (by omega) (by omega)]
      by_cases e : cs P i = h
      · rw [if_pos e, show (1 : Int32) = nI 1 from rfl, nI_add]; simp [cnt, e]
      · rw [if_neg e, Int32.add_zero]; simp [cnt, e]
    · have : i = nc := by omega
      subst this
      rw [if_pos (Int32.le_refl _)]
theorem so137 (hC : CI k ns nc nv nt tn ch S P N) (hM : MI ns nc nv nt tn bn S P M) {s : Nat} (hs : s < nv) (K : Int32 → Option Int32) : ∀ (n i : Nat), i ≤ nt → nt < i + n → f6_shipOf_137 K M (nI s) n (nI (cnt (fun t => decide (S 406 t = 3 ∧ sl P t = s)) i)) (nI i) = K (nI (cnt (fun t => decide (S 406 t = 3 ∧ sl P t = s)) nt)) := by
  have hb := hC.nt4
  have hv := hC.nv6
  intro n
  induction n with
  | zero => intro i h1 h2; omega
  | succ n ih =>
    intro i h1 h2
    rw [f6_shipOf_137, hM.cnt.2.2.2]
    rcases Nat.lt_or_ge i nt with hi | hi
    · rw [if_neg (nI_ge hi (by omega)), if_neg (nI_neg1 (by omega)), isAb hM hb hv hi (hC.t5 hi) hs]
      simp only [Option.bind_some, lt, nI_1]
      rw [← ih (i + 1) (by omega) (by omega)]
      by_cases e : sl P i = s ∧ S 406 i = 3
      · rw [if_pos e, if_neg one_ne, show (1 : Int32) = nI 1 from rfl, nI_add]; simp [cnt, e.1, e.2]
      · rw [if_neg e, if_pos rfl, Int32.add_zero]
        have : ¬ (S 406 i = 3 ∧ sl P i = s) := fun q => e ⟨q.2, q.1⟩
        simp only [cnt, decide_eq_false this]; rfl
    · have : i = nt := by omega
      subst this
      rw [if_pos (Int32.le_refl _)]
/-- who stands on a ship stands there of its open sailing -/
theorem ab_open (hC : CI k ns nc nv nt tn ch S P N) {h s : Nat} (hs : s < nv) (e1 : vs P s = h) (e2 : S 204 s = 1) {t : Nat} (ht : t < nt) : (S 406 t = 3 ∧ st P t = h) ↔ (S 406 t = 3 ∧ sl P t = s) := by
  constructor
  · rintro ⟨a, b⟩
    exact ⟨a, hC.one _ _ (hC.t5 ht) hs (hC.ab t ht a) e2 (by rw [e1]; exact b)⟩
  · rintro ⟨a, b⟩
    exact ⟨a, by unfold st; rw [b]; exact e1⟩
theorem ab_none (hC : CI k ns nc nv nt tn ch S P N) {h : Nat} (hn : ∀ s, s < nv → ¬ (vs P s = h ∧ S 204 s = 1)) {t : Nat} (ht : t < nt) : ¬ (S 406 t = 3 ∧ st P t = h) := fun q => hn _ (hC.t5 ht) ⟨q.2, hC.ab t ht q.1⟩
theorem B_shipOf_ok : B_shipOf Inv := by
  rintro k S P N M a1 a2 hk ⟨ns, nc, nv, nt, tn, bn, ch, hC, hM, hR⟩
  have hI : Inv (k + 1) S P N M := Inv_up _ _ _ _ _ ⟨ns, nc, nv, nt, tn, bn, ch, hC, hM, hR⟩
  have hns := hC.ns1
  have hv := hC.nv6
  have hn := hC.nc1
  have hb := hC.nt4
  have none_ : (a1 < 0 ∨ nI ns ≤ a1) → ∃ v, f5_shipOf S P a1 a2 = some v ∧ f6_shipOf M a1 a2 = some v ∧ Inv (k + 1) S P N M := by
    intro h
    refine ⟨-1, ?_, ?_, hI⟩
    · unfold f5_shipOf; rw [pn_none hC h]; rfl
    · unfold f6_shipOf; rw [isP_none hM h]; rfl
  rcases pk_ix a1 (n := ns) (by omega) with h | h | ⟨h, hh, rfl⟩
  · exact none_ (Or.inl h)
  · exact none_ (Or.inr h)
  · unfold f5_shipOf f6_shipOf
    rw [pn_some hC hh, isP_some hM hns hh]
    simp only [Option.bind_some, Option.elim_some, if_neg one_ne, ix_nI (show h < 12 by omega) (by decide)]
    obtain ⟨m1, m2, m3, m4⟩ := hM.ship h hh
    have c4 : f6_shipOf_91 (fun w9 => some w9) M (nI h) FU 0 0 = some (S 305 h) := by
      rw [hC.cabn h hh]
      exact so91 hC hM hh (fun w9 => some w9) FU 0 (by omega) (by rw [FU_eq]; omega)
    have c5 : ((f6_openOf M (nI h)).bind fun v10 => f6_shipOf_137 (fun w15 => some w15) M v10 FU 0 0) = some (S 306 h) := by
      rw [hC.std h hh]
      rcases opn0 hC hM hh with ⟨s, hs, e1, e2, -, e4⟩ | ⟨e1, -, e4⟩
      · rw [e4, Option.bind_some]
        rw [cnt_congr (q := fun t => decide (S 406 t = 3 ∧ sl P t = s)) (fun t ht => decide_eq_decide.mpr (ab_open hC hs e1 e2 ht))]
        exact so137 hC hM hs (fun w9 => some w9) FU 0 (by omega) (by rw [FU_eq]; omega)
      · rw [e4, Option.bind_some, cnt_zero (fun t ht => decide_eq_false (ab_none hC e1 ht))]
        show f6_shipOf_137 _ M (-1) (5999 + 1) 0 0 = _
        rw [f6_shipOf_137, if_pos (show (-1 : Int32) = -1 from rfl)]
        split <;> rfl
    rw [c4, c5, m1, m2, m3, m4]
    rcases (hC.ship h hh).2.2.2.2 with e | e <;> rw [e] <;> repeat' split
    all_goals exact ⟨_, rfl, rfl, hI⟩
end SHIPOF
