/-! single updates; arrive, open -/
section UPD
variable {k ns nc nv nt tn bn : Nat} {ch : Nat → Nat → List Nat} {S : TS} {P : TP} {N : TN} {M : TS}
theorem up_eq {S : TS} {c i i' : Nat} {v : Int32} : up S c i v c i' = if i' = i then v else S c i' := by simp [up, upd]
theorem up3_eq {P : TP} {c i j i' : Nat} {v : Option Nat} : up3 P c i j v c i' j = if i' = i then v else P c i' j := by
  by_cases h : i' = i
  · subst h; rw [if_pos rfl, up3_v]
  · rw [if_neg h, up3_i h]
theorem tS_u402 {t : Nat} {v : Int32} (t' q' : Nat) (hq : q' < 13) : tS (up S 402 t v) P q' t' = if t' = t ∧ q' = 1 then v else tS S P q' t' := by
  match q', hq with
  | 0, _ => rw [if_neg (fun h => absurd h.2 (by decide))]; rfl
  | 1, _ =>
    show up S 402 t v 402 t' = _; rw [up_eq]
    by_cases e : t' = t
    · rw [if_pos e, if_pos ⟨e, rfl⟩]
    · rw [if_neg e, if_neg (fun h => e h.1)]; rfl
  | 2, _ => rw [if_neg (fun h => absurd h.2 (by decide))]; rfl
  | 3, _ => rw [if_neg (fun h => absurd h.2 (by decide))]; rfl
  | 4, _ => rw [if_neg (fun h => absurd h.2 (by decide))]; rfl
  | 5, _ => rw [if_neg (fun h => absurd h.2 (by decide))]; rfl
  | 6, _ => rw [if_neg (fun h => absurd h.2 (by decide))]; rfl
  | 7, _ => rw [if_neg (fun h => absurd h.2 (by decide))]; rfl
  | 8, _ => rw [if_neg (fun h => absurd h.2 (by decide))]; rfl
  | 9, _ => rw [if_neg (fun h => absurd h.2 (by decide))]; rfl
  | 10, _ => rw [if_neg (fun h => absurd h.2 (by decide))]; rfl
  | 11, _ => rw [if_neg (fun h => absurd h.2 (by decide))]; rfl
  | 12, _ => rw [if_neg (fun h => absurd h.2 (by decide))]; rfl
theorem tS_u403 {t : Nat} {v : Int32} (t' q' : Nat) (hq : q' < 13) : tS (up S 403 t v) P q' t' = if t' = t ∧ q' = 2 then v else tS S P q' t' := by
  match q', hq with
  | 0, _ => rw [if_neg (fun h => absurd h.2 (by decide))]; rfl
  | 1, _ => rw [if_neg (fun h => absurd h.2 (by decide))]; rfl
  | 2, _ =>
    show up S 403 t v 403 t' = _; rw [up_eq]
    by_cases e : t' = t
    · rw [if_pos e, if_pos ⟨e, rfl⟩]
    · rw [if_neg e, if_neg (fun h => e h.1)]; rfl
  | 3, _ => rw [if_neg (fun h => absurd h.2 (by decide))]; rfl
  | 4, _ => rw [if_neg (fun h => absurd h.2 (by decide))]; rfl
  | 5, _ => rw [if_neg (fun h => absurd h.2 (by decide))]; rfl
  | 6, _ => rw [if_neg (fun h => absurd h.2 (by decide))]; rfl
  | 7, _ => rw [if_neg (fun h => absurd h.2 (by decide))]; rfl
  | 8, _ => rw [if_neg (fun h => absurd h.2 (by decide))]; rfl
  | 9, _ => rw [if_neg (fun h => absurd h.2 (by decide))]; rfl
  | 10, _ => rw [if_neg (fun h => absurd h.2 (by decide))]; rfl
  | 11, _ => rw [if_neg (fun h => absurd h.2 (by decide))]; rfl
  | 12, _ => rw [if_neg (fun h => absurd h.2 (by decide))]; rfl
theorem tS_u404 {t : Nat} {v : Int32} (t' q' : Nat) (hq : q' < 13) : tS (up S 404 t v) P q' t' = if t' = t ∧ q' = 3 then v else tS S P q' t' := by
  match q', hq with
  | 0, _ => rw [if_neg (fun h => absurd h.2 (by decide))]; rfl
  | 1, _ => rw [if_neg (fun h => absurd h.2 (by decide))]; rfl
  | 2, _ => rw [if_neg (fun h => absurd h.2 (by decide))]; rfl
  | 3, _ =>
    show up S 404 t v 404 t' = _; rw [up_eq]
    by_cases e : t' = t
    · rw [if_pos e, if_pos ⟨e, rfl⟩]
    · rw [if_neg e, if_neg (fun h => e h.1)]; rfl
  | 4, _ => rw [if_neg (fun h => absurd h.2 (by decide))]; rfl
  | 5, _ => rw [if_neg (fun h => absurd h.2 (by decide))]; rfl
  | 6, _ => rw [if_neg (fun h => absurd h.2 (by decide))]; rfl
  | 7, _ => rw [if_neg (fun h => absurd h.2 (by decide))]; rfl
  | 8, _ => rw [if_neg (fun h => absurd h.2 (by decide))]; rfl
  | 9, _ => rw [if_neg (fun h => absurd h.2 (by decide))]; rfl
  | 10, _ => rw [if_neg (fun h => absurd h.2 (by decide))]; rfl
  | 11, _ => rw [if_neg (fun h => absurd h.2 (by decide))]; rfl
  | 12, _ => rw [if_neg (fun h => absurd h.2 (by decide))]; rfl
theorem tS_u406 {t : Nat} {v : Int32} (t' q' : Nat) (hq : q' < 13) : tS (up S 406 t v) P q' t' = if t' = t ∧ q' = 4 then v else tS S P q' t' := by
  match q', hq with
  | 0, _ => rw [if_neg (fun h => absurd h.2 (by decide))]; rfl
  | 1, _ => rw [if_neg (fun h => absurd h.2 (by decide))]; rfl
  | 2, _ => rw [if_neg (fun h => absurd h.2 (by decide))]; rfl
  | 3, _ => rw [if_neg (fun h => absurd h.2 (by decide))]; rfl
  | 4, _ =>
    show up S 406 t v 406 t' = _; rw [up_eq]
    by_cases e : t' = t
    · rw [if_pos e, if_pos ⟨e, rfl⟩]
    · rw [if_neg e, if_neg (fun h => e h.1)]; rfl
  | 5, _ => rw [if_neg (fun h => absurd h.2 (by decide))]; rfl
  | 6, _ => rw [if_neg (fun h => absurd h.2 (by decide))]; rfl
  | 7, _ => rw [if_neg (fun h => absurd h.2 (by decide))]; rfl
  | 8, _ => rw [if_neg (fun h => absurd h.2 (by decide))]; rfl
  | 9, _ => rw [if_neg (fun h => absurd h.2 (by decide))]; rfl
  | 10, _ => rw [if_neg (fun h => absurd h.2 (by decide))]; rfl
  | 11, _ => rw [if_neg (fun h => absurd h.2 (by decide))]; rfl
  | 12, _ => rw [if_neg (fun h => absurd h.2 (by decide))]; rfl
theorem tS_u407 {t : Nat} {v : Int32} (t' q' : Nat) (hq : q' < 13) : tS (up S 407 t v) P q' t' = if t' = t ∧ q' = 5 then v else tS S P q' t' := by
  match q', hq with
  | 0, _ => rw [if_neg (fun h => absurd h.2 (by decide))]; rfl
  | 1, _ => rw [if_neg (fun h => absurd h.2 (by decide))]; rfl
  | 2, _ => rw [if_neg (fun h => absurd h.2 (by decide))]; rfl
  | 3, _ => rw [if_neg (fun h => absurd h.2 (by decide))]; rfl
  | 4, _ => rw [if_neg (fun h => absurd h.2 (by decide))]; rfl
  | 5, _ =>
    show up S 407 t v 407 t' = _; rw [up_eq]
    by_cases e : t' = t
    · rw [if_pos e, if_pos ⟨e, rfl⟩]
    · rw [if_neg e, if_neg (fun h => e h.1)]; rfl
  | 6, _ => rw [if_neg (fun h => absurd h.2 (by decide))]; rfl
  | 7, _ => rw [if_neg (fun h => absurd h.2 (by decide))]; rfl
  | 8, _ => rw [if_neg (fun h => absurd h.2 (by decide))]; rfl
  | 9, _ => rw [if_neg (fun h => absurd h.2 (by decide))]; rfl
  | 10, _ => rw [if_neg (fun h => absurd h.2 (by decide))]; rfl
  | 11, _ => rw [if_neg (fun h => absurd h.2 (by decide))]; rfl
  | 12, _ => rw [if_neg (fun h => absurd h.2 (by decide))]; rfl
theorem tS_u408 {t : Nat} {v : Int32} (t' q' : Nat) (hq : q' < 13) : tS (up S 408 t v) P q' t' = if t' = t ∧ q' = 6 then v else tS S P q' t' := by
  match q', hq with
  | 0, _ => rw [if_neg (fun h => absurd h.2 (by decide))]; rfl
  | 1, _ => rw [if_neg (fun h => absurd h.2 (by decide))]; rfl
  | 2, _ => rw [if_neg (fun h => absurd h.2 (by decide))]; rfl
  | 3, _ => rw [if_neg (fun h => absurd h.2 (by decide))]; rfl
  | 4, _ => rw [if_neg (fun h => absurd h.2 (by decide))]; rfl
  | 5, _ => rw [if_neg (fun h => absurd h.2 (by decide))]; rfl
  | 6, _ =>
    show up S 408 t v 408 t' = _; rw [up_eq]
    by_cases e : t' = t
    · rw [if_pos e, if_pos ⟨e, rfl⟩]
    · rw [if_neg e, if_neg (fun h => e h.1)]; rfl
  | 7, _ => rw [if_neg (fun h => absurd h.2 (by decide))]; rfl
  | 8, _ => rw [if_neg (fun h => absurd h.2 (by decide))]; rfl
  | 9, _ => rw [if_neg (fun h => absurd h.2 (by decide))]; rfl
  | 10, _ => rw [if_neg (fun h => absurd h.2 (by decide))]; rfl
  | 11, _ => rw [if_neg (fun h => absurd h.2 (by decide))]; rfl
  | 12, _ => rw [if_neg (fun h => absurd h.2 (by decide))]; rfl
theorem tS_u409 {t : Nat} {v : Int32} (t' q' : Nat) (hq : q' < 13) : tS (up S 409 t v) P q' t' = if t' = t ∧ q' = 7 then v else tS S P q' t' := by
  match q', hq with
  | 0, _ => rw [if_neg (fun h => absurd h.2 (by decide))]; rfl
  | 1, _ => rw [if_neg (fun h => absurd h.2 (by decide))]; rfl
  | 2, _ => rw [if_neg (fun h => absurd h.2 (by decide))]; rfl
  | 3, _ => rw [if_neg (fun h => absurd h.2 (by decide))]; rfl
  | 4, _ => rw [if_neg (fun h => absurd h.2 (by decide))]; rfl
  | 5, _ => rw [if_neg (fun h => absurd h.2 (by decide))]; rfl
  | 6, _ => rw [if_neg (fun h => absurd h.2 (by decide))]; rfl
  | 7, _ =>
    show up S 409 t v 409 t' = _; rw [up_eq]
    by_cases e : t' = t
    · rw [if_pos e, if_pos ⟨e, rfl⟩]
    · rw [if_neg e, if_neg (fun h => e h.1)]; rfl
  | 8, _ => rw [if_neg (fun h => absurd h.2 (by decide))]; rfl
  | 9, _ => rw [if_neg (fun h => absurd h.2 (by decide))]; rfl
  | 10, _ => rw [if_neg (fun h => absurd h.2 (by decide))]; rfl
  | 11, _ => rw [if_neg (fun h => absurd h.2 (by decide))]; rfl
  | 12, _ => rw [if_neg (fun h => absurd h.2 (by decide))]; rfl
theorem tS_u410 {t : Nat} {v : Int32} (t' q' : Nat) (hq : q' < 13) : tS (up S 410 t v) P q' t' = if t' = t ∧ q' = 8 then v else tS S P q' t' := by
  match q', hq with
  | 0, _ => rw [if_neg (fun h => absurd h.2 (by decide))]; rfl
  | 1, _ => rw [if_neg (fun h => absurd h.2 (by decide))]; rfl
  | 2, _ => rw [if_neg (fun h => absurd h.2 (by decide))]; rfl
  | 3, _ => rw [if_neg (fun h => absurd h.2 (by decide))]; rfl
  | 4, _ => rw [if_neg (fun h => absurd h.2 (by decide))]; rfl
  | 5, _ => rw [if_neg (fun h => absurd h.2 (by decide))]; rfl
  | 6, _ => rw [if_neg (fun h => absurd h.2 (by decide))]; rfl
  | 7, _ => rw [if_neg (fun h => absurd h.2 (by decide))]; rfl
  | 8, _ =>
    show up S 410 t v 410 t' = _; rw [up_eq]
    by_cases e : t' = t
    · rw [if_pos e, if_pos ⟨e, rfl⟩]
    · rw [if_neg e, if_neg (fun h => e h.1)]; rfl
  | 9, _ => rw [if_neg (fun h => absurd h.2 (by decide))]; rfl
  | 10, _ => rw [if_neg (fun h => absurd h.2 (by decide))]; rfl
  | 11, _ => rw [if_neg (fun h => absurd h.2 (by decide))]; rfl
  | 12, _ => rw [if_neg (fun h => absurd h.2 (by decide))]; rfl
theorem tS_u411 {t : Nat} {v : Int32} (t' q' : Nat) (hq : q' < 13) : tS (up S 411 t v) P q' t' = if t' = t ∧ q' = 9 then v else tS S P q' t' := by
  match q', hq with
  | 0, _ => rw [if_neg (fun h => absurd h.2 (by decide))]; rfl
  | 1, _ => rw [if_neg (fun h => absurd h.2 (by decide))]; rfl
  | 2, _ => rw [if_neg (fun h => absurd h.2 (by decide))]; rfl
  | 3, _ => rw [if_neg (fun h => absurd h.2 (by decide))]; rfl
  | 4, _ => rw [if_neg (fun h => absurd h.2 (by decide))]; rfl
  | 5, _ => rw [if_neg (fun h => absurd h.2 (by decide))]; rfl
  | 6, _ => rw [if_neg (fun h => absurd h.2 (by decide))]; rfl
  | 7, _ => rw [if_neg (fun h => absurd h.2 (by decide))]; rfl
  | 8, _ => rw [if_neg (fun h => absurd h.2 (by decide))]; rfl
  | 9, _ =>
    show up S 411 t v 411 t' = _; rw [up_eq]
    by_cases e : t' = t
    · rw [if_pos e, if_pos ⟨e, rfl⟩]
    · rw [if_neg e, if_neg (fun h => e h.1)]; rfl
  | 10, _ => rw [if_neg (fun h => absurd h.2 (by decide))]; rfl
  | 11, _ => rw [if_neg (fun h => absurd h.2 (by decide))]; rfl
  | 12, _ => rw [if_neg (fun h => absurd h.2 (by decide))]; rfl
theorem tS_u405 {t : Nat} {v : Int32} (t' q' : Nat) (hq : q' < 13) : tS (up S 405 t v) P q' t' = if t' = t ∧ q' = 10 then v else tS S P q' t' := by
  match q', hq with
  | 0, _ => rw [if_neg (fun h => absurd h.2 (by decide))]; rfl
  | 1, _ => rw [if_neg (fun h => absurd h.2 (by decide))]; rfl
  | 2, _ => rw [if_neg (fun h => absurd h.2 (by decide))]; rfl
  | 3, _ => rw [if_neg (fun h => absurd h.2 (by decide))]; rfl
  | 4, _ => rw [if_neg (fun h => absurd h.2 (by decide))]; rfl
  | 5, _ => rw [if_neg (fun h => absurd h.2 (by decide))]; rfl
  | 6, _ => rw [if_neg (fun h => absurd h.2 (by decide))]; rfl
  | 7, _ => rw [if_neg (fun h => absurd h.2 (by decide))]; rfl
  | 8, _ => rw [if_neg (fun h => absurd h.2 (by decide))]; rfl
  | 9, _ => rw [if_neg (fun h => absurd h.2 (by decide))]; rfl
  | 10, _ =>
    show up S 405 t v 405 t' = _; rw [up_eq]
    by_cases e : t' = t
    · rw [if_pos e, if_pos ⟨e, rfl⟩]
    · rw [if_neg e, if_neg (fun h => e h.1)]; rfl
  | 11, _ => rw [if_neg (fun h => absurd h.2 (by decide))]; rfl
  | 12, _ => rw [if_neg (fun h => absurd h.2 (by decide))]; rfl
theorem tS_u412 {t : Nat} {v : Int32} (t' q' : Nat) (hq : q' < 13) : tS (up S 412 t v) P q' t' = if t' = t ∧ q' = 11 then v else tS S P q' t' := by
  match q', hq with
  | 0, _ => rw [if_neg (fun h => absurd h.2 (by decide))]; rfl
  | 1, _ => rw [if_neg (fun h => absurd h.2 (by decide))]; rfl
  | 2, _ => rw [if_neg (fun h => absurd h.2 (by decide))]; rfl
  | 3, _ => rw [if_neg (fun h => absurd h.2 (by decide))]; rfl
  | 4, _ => rw [if_neg (fun h => absurd h.2 (by decide))]; rfl
  | 5, _ => rw [if_neg (fun h => absurd h.2 (by decide))]; rfl
  | 6, _ => rw [if_neg (fun h => absurd h.2 (by decide))]; rfl
  | 7, _ => rw [if_neg (fun h => absurd h.2 (by decide))]; rfl
  | 8, _ => rw [if_neg (fun h => absurd h.2 (by decide))]; rfl
  | 9, _ => rw [if_neg (fun h => absurd h.2 (by decide))]; rfl
  | 10, _ => rw [if_neg (fun h => absurd h.2 (by decide))]; rfl
  | 11, _ =>
    show up S 412 t v 412 t' = _; rw [up_eq]
    by_cases e : t' = t
    · rw [if_pos e, if_pos ⟨e, rfl⟩]
    · rw [if_neg e, if_neg (fun h => e h.1)]; rfl
  | 12, _ => rw [if_neg (fun h => absurd h.2 (by decide))]; rfl
theorem tS_u413 {t : Nat} {v : Int32} (t' q' : Nat) (hq : q' < 13) : tS (up S 413 t v) P q' t' = if t' = t ∧ q' = 12 then v else tS S P q' t' := by
  match q', hq with
  | 0, _ => rw [if_neg (fun h => absurd h.2 (by decide))]; rfl
  | 1, _ => rw [if_neg (fun h => absurd h.2 (by decide))]; rfl
  | 2, _ => rw [if_neg (fun h => absurd h.2 (by decide))]; rfl
  | 3, _ => rw [if_neg (fun h => absurd h.2 (by decide))]; rfl
  | 4, _ => rw [if_neg (fun h => absurd h.2 (by decide))]; rfl
  | 5, _ => rw [if_neg (fun h => absurd h.2 (by decide))]; rfl
  | 6, _ => rw [if_neg (fun h => absurd h.2 (by decide))]; rfl
  | 7, _ => rw [if_neg (fun h => absurd h.2 (by decide))]; rfl
  | 8, _ => rw [if_neg (fun h => absurd h.2 (by decide))]; rfl
  | 9, _ => rw [if_neg (fun h => absurd h.2 (by decide))]; rfl
  | 10, _ => rw [if_neg (fun h => absurd h.2 (by decide))]; rfl
  | 11, _ => rw [if_neg (fun h => absurd h.2 (by decide))]; rfl
  | 12, _ =>
    show up S 413 t v 413 t' = _; rw [up_eq]
    by_cases e : t' = t
    · rw [if_pos e, if_pos ⟨e, rfl⟩]
    · rw [if_neg e, if_neg (fun h => e h.1)]; rfl
theorem tick_up {S' : TS} {P' : TP} (h : MI_tick nt S P M) {t q : Nat} {v : Int32} (hq : q < 13) (hS : ∀ t' q', q' < 13 → tS S' P' q' t' = if t' = t ∧ q' = q then v else tS S P q' t') : MI_tick nt S' P' (up M 3500 (13 * t + q) v) := by
  intro t' q' ht' hq'
  rw [up_eq, hS t' q' hq', h t' q' ht' hq']
  by_cases e : t' = t ∧ q' = q
  · obtain ⟨rfl, rfl⟩ := e
    rw [if_pos rfl, if_pos ⟨rfl, rfl⟩]
  · rw [if_neg e, if_neg]
    intro e2
    exact e ⟨by omega, by omega⟩
theorem key406 {t : Nat} {v : Int32} (h0 : ¬ S 406 t = 3) (hv : ¬ v = 3) : ∀ t', (up S 406 t v 406 t' = 3) = (S 406 t' = 3) := by
  intro t'
  rw [up_eq]
  by_cases e : t' = t
  · subst e; rw [if_pos rfl]; exact propext ⟨fun h => absurd h hv, fun h => absurd h h0⟩
  · rw [if_neg e]
theorem CI_howt (hC : CI k ns nc nv nt tn ch S P N) {t : Nat} {v : Int32} (h0 : ¬ S 406 t = 3) (hv : ¬ v = 3) (h7 : ∃ h : Nat, h ≤ 7 ∧ v = nI h) (h6 : ¬ S 406 t = 6) : CI k ns nc nv nt tn ch (up S 406 t v) P N := by
  have key := key406 (S := S) h0 hv
  refine ⟨hC.cnt, hC.ship, hC.cab, hC.cabn, hC.sail, hC.how, hC.one, ?_, ?_, ?_, ?_, ?_, ?_, ?_, hC.turn, ?_, hC.lnk, ?_, ?_, hC.ctg⟩
  · unfold CI_ramp; simp only [key]; exact hC.ramp
  · intro t' ht'
    obtain ⟨a, b, c, d, e, f, f'⟩ := hC.tick t' ht'
    refine ⟨a, b, c, d, e, ?_, ?_⟩
    · by_cases e : t' = t
      · obtain ⟨h, h1, h2⟩ := h7
        exact ⟨h, h1, by rw [up_eq, if_pos e, h2]⟩
      · obtain ⟨h, h1, h2⟩ := f
        exact ⟨h, h1, by rw [up_eq, if_neg e, h2]⟩
    · by_cases e : t' = t
      · rw [e] at f' ⊢; exact fun _ _ => f' h0 h6
      · rw [up_i e]; exact f'
  · unfold CI_ab; simp only [key]; exact hC.ab
  · unfold CI_cb; simp only [key]; exact hC.cb
  · unfold CI_tk; simp only [key]; exact hC.tk
  · unfold CI_uq; simp only [key]; exact hC.uq
  · unfold CI_std; simp only [key]; exact hC.std
  · unfold CI_brd; simp only [key]; exact hC.brd
  · unfold CI_mem; simp only [key]; exact hC.mem
  · unfold CI_dl; simp only [key]; exact hC.dl
theorem MI_howt (hM : MI ns nc nv nt tn bn S P M) {t : Nat} {v : Int32} (h0 : ¬ S 406 t = 3) (hv : ¬ v = 3) : MI ns nc nv nt tn bn (up S 406 t v) P (up M 3500 (13 * t + 4) v) := by
  have key := key406 (S := S) h0 hv
  refine ⟨hM.cnt, hM.ship, hM.cab, hM.sail, hM.how, hM.off, hM.ramp, tick_up hM.tick (by decide) tS_u406, hM.turn, ?_, hM.log, hM.new⟩
  unfold MI_brd; simp only [key]; exact hM.brd
/-- numbers of a ticket that no invariant speaks of -/
theorem CI_f407 (hC : CI k ns nc nv nt tn ch S P N) {t : Nat} {v : Int32} : CI k ns nc nv nt tn ch (up S 407 t v) P N := hC
theorem CI_f412 (hC : CI k ns nc nv nt tn ch S P N) {t : Nat} {v : Int32} : CI k ns nc nv nt tn ch (up S 412 t v) P N := hC
theorem CI_f413 (hC : CI k ns nc nv nt tn ch S P N) {t : Nat} {v : Int32} : CI k ns nc nv nt tn ch (up S 413 t v) P N := hC

theorem MI_f407 (hM : MI ns nc nv nt tn bn S P M) {t : Nat} {v : Int32} : MI ns nc nv nt tn bn (up S 407 t v) P (up M 3500 (13 * t + 5) v) := ⟨hM.cnt, hM.ship, hM.cab, hM.sail, hM.how, hM.off, hM.ramp, tick_up hM.tick (by decide) tS_u407, hM.turn, hM.brd, hM.log, hM.new⟩
theorem MI_f412 (hM : MI ns nc nv nt tn bn S P M) {t : Nat} {v : Int32} : MI ns nc nv nt tn bn (up S 412 t v) P (up M 3500 (13 * t + 11) v) := ⟨hM.cnt, hM.ship, hM.cab, hM.sail, hM.how, hM.off, hM.ramp, tick_up hM.tick (by decide) tS_u412, hM.turn, hM.brd, hM.log, hM.new⟩
theorem MI_f413 (hM : MI ns nc nv nt tn bn S P M) {t : Nat} {v : Int32} : MI ns nc nv nt tn bn (up S 413 t v) P (up M 3500 (13 * t + 12) v) := ⟨hM.cnt, hM.ship, hM.cab, hM.sail, hM.how, hM.off, hM.ramp, tick_up hM.tick (by decide) tS_u413, hM.turn, hM.brd, hM.log, hM.new⟩
theorem toGo5 {s : Nat} : f2_isPlannedOrOpen S P s = some (if S 204 s = 0 ∨ S 204 s = 1 then 1 else 0) := by
  unfold f2_isPlannedOrOpen
  by_cases h : S 204 s = 0
  · rw [if_pos h, if_pos (Or.inl h)]
  · rw [if_neg h]
    by_cases h1 : S 204 s = 1
    · rw [if_pos h1, if_pos (Or.inr h1)]
    · rw [if_neg h1, if_neg (by rintro (q | q); exact h q; exact h1 q)]
theorem toGo6 (hM : MI ns nc nv nt tn bn S P M) (hv : nv ≤ 60) {s : Nat} (hs : s < nv) : f6_isToGo M (nI s) = some (if S 204 s = 0 ∨ S 204 s = 1 then 1 else 0) := by
  unfold f6_isToGo
  rw [ix_nI (show s < 60 by omega) (by decide)]
  simp only [Option.bind_some, (hM.how s hs).1]
  by_cases h : S 204 s = 0
  · rw [if_pos h, if_pos (Or.inl h)]
  · rw [if_neg h]
    by_cases h1 : S 204 s = 1
    · rw [if_pos h1, if_pos (Or.inr h1)]
    · rw [if_neg h1, if_neg (by rintro (q | q); exact h q; exact h1 q)]
theorem B_arrive_ok : B_arrive Inv := by
  rintro k S P N M a1 a2 hk ⟨ns, nc, nv, nt, tn, bn, ch, hC, hM, hR⟩
  have hI : Inv (k + 1) S P N M := Inv_up _ _ _ _ _ ⟨ns, nc, nv, nt, tn, bn, ch, hC, hM, hR⟩
  have hb := hC.nt4
  have hv := hC.nv6
  have none_ : (a1 < 0 ∨ nI nt ≤ a1) → ∃ v S' P' M', f5_arrive S P a1 a2 = some (v, S', P') ∧ f6_arrive M a1 a2 = some (v, M') ∧ Inv (k + 1) S' P' N M' := by
    intro h
    refine ⟨0, S, P, M, ?_, ?_, hI⟩
    · unfold f5_arrive; rw [tn_none hC h]; rfl
    · unfold f6_arrive; rw [isT_none hM h]; rfl
  rcases pk_ix a1 (n := nt) (by omega) with h | h | ⟨t, ht, rfl⟩
  · exact none_ (Or.inl h)
  · exact none_ (Or.inr h)
  · have hsl := hC.t5 ht
    unfold f5_arrive f6_arrive
    rw [tn_some hC ht, isT_some hM hb ht, of4 hM hb ht, of0 hM hb ht, isIn_eq, put4 (by omega)]
    simp only [Option.bind_some, Option.elim_some, if_neg one_ne, lt, hC.t4 ht, toGo5, toGo6 hM hv hsl, put5 (show t < 400 by omega)]
    by_cases h0 : S 406 t = 0
    · simp only [if_pos h0]
      rcases within_c a2 0 200000 with ⟨h, h1, h2⟩ | ⟨h, h1⟩
      · rw [h]
        simp only [Option.bind_some, if_neg one_ne]
        by_cases h4 : S 204 (sl P t) = 0 ∨ S 204 (sl P t) = 1
        · simp only [if_pos h4, if_neg one_ne]
          have n3 : ¬ S 406 t = 3 := by rw [h0]; decide
          refine ⟨_, _, _, _, rfl, rfl, Inv_up _ _ _ _ _ ⟨ns, nc, nv, nt, tn, bn, ch, CI_f407 (CI_howt hC n3 (by decide) ⟨1, by decide, rfl⟩ (by rw [h0]; decide)), MI_f407 (MI_howt hM n3 (by decide)), ?_⟩⟩
          intro s hs g1 g2
          obtain ⟨t', h5, h6, h7⟩ := hR s hs g1 g2
          refine ⟨t', h5, h6, ?_⟩
          show up S 406 t 1 406 t' ≤ 4
          rw [up_eq]
          split
          · decide
          · exact h7
        · simp only [if_neg h4]
          exact ⟨_, _, _, _, rfl, rfl, hI⟩
      · rw [h]
        exact ⟨_, _, _, _, rfl, rfl, hI⟩
    · simp only [if_neg h0]
      exact ⟨_, _, _, _, rfl, rfl, hI⟩
theorem opn (hC : CI k ns nc nv nt tn ch S P N) (hM : MI ns nc nv nt tn bn S P M) {h : Nat} (hh : h < ns) (K K' : Option Int32) : ∀ (n i : Nat), i ≤ nv → nv < i + n → (∃ s, i ≤ s ∧ s < nv ∧ vs P s = h ∧ S 204 s = 1 ∧ f5_hasOpenSailing_2 K S P h n (nI i) = some 1 ∧ f6_openOf_2 K' M (nI h) n (nI i) = some (nI s)) ∨ ((∀ s, i ≤ s → s < nv → ¬ (vs P s = h ∧ S 204 s = 1)) ∧ f5_hasOpenSailing_2 K S P h n (nI i) = K ∧ f6_openOf_2 K' M (nI h) n (nI i) = K') := by
  have hv := hC.nv6
  have hns := hC.ns1
  intro n
  induction n with
  | zero => intro i h1 h2; omega
  | succ n ih =>
    intro i h1 h2
    rw [f5_hasOpenSailing_2, f6_openOf_2, hC.c5, hM.cnt.2.2.1]
    rcases Nat.lt_or_ge i nv with hi | hi
    · have hsh := hC.s3 hi
      rw [if_neg (nI_ge hi (by omega)), if_neg (nI_ge hi (by omega)), ix_nI (by omega) (by decide)]
      simp only [Option.bind_some, lt, hC.s9 hi, hC.s2 hi, some_eq, (hM.sail i hi).1, (hM.how i hi).1, show (nI (vs P i) = nI h) = (vs P i = h) from propext (nI_eq (by omega) (by omega)), nI_1]
      have next := ih (i + 1) (by omega) (by omega)
      have step : ¬ (vs P i = h ∧ S 204 i = 1) → (∃ s, i ≤ s ∧ s < nv ∧ vs P s = h ∧ S 204 s = 1 ∧ f5_hasOpenSailing_2 K S P h n (nI (i + 1)) = some 1 ∧ f6_openOf_2 K' M (nI h) n (nI (i + 1)) = some (nI s)) ∨ ((∀ s, i ≤ s → s < nv → ¬ (vs P s = h ∧ S 204 s = 1)) ∧ f5_hasOpenSailing_2 K S P h n (nI (i + 1)) = K ∧ f6_openOf_2 K' M (nI h) n (nI (i + 1)) = K') := by
        intro hno
        rcases next with ⟨s, g1, g2⟩ | ⟨g1, g2⟩
        · exact Or.inl ⟨s, by omega, g2⟩
        · refine Or.inr ⟨fun s q1 q2 => ?_, g2⟩
          rcases Nat.eq_or_lt_of_le q1 with e | e
          · subst e; exact hno
          · exact g1 s e q2
      by_cases e1 : vs P i = h
      · simp only [if_pos e1]
        by_cases e2 : S 204 i = 1
        · simp only [if_pos e2]
          exact Or.inl ⟨i, Nat.le_refl _, hi, e1, e2, by simp, by simp⟩
        · simp only [if_neg e2]
          exact step (fun q => e2 q.2)
      · simp only [if_neg e1]
        exact step (fun q => e1 q.1)
    · have : i = nv := by omega
      subst this
      rw [if_pos (Int32.le_refl _), if_pos (Int32.le_refl _)]
      exact Or.inr ⟨fun s q1 q2 => by omega, rfl, rfl⟩
/-- the open sailing of a ship, if there is one -/
theorem opn0 (hC : CI k ns nc nv nt tn ch S P N) (hM : MI ns nc nv nt tn bn S P M) {h : Nat} (hh : h < ns) : (∃ s, s < nv ∧ vs P s = h ∧ S 204 s = 1 ∧ f5_hasOpenSailing S P h = some 1 ∧ f6_openOf M (nI h) = some (nI s)) ∨ ((∀ s, s < nv → ¬ (vs P s = h ∧ S 204 s = 1)) ∧ f5_hasOpenSailing S P h = some 0 ∧ f6_openOf M (nI h) = some (-1)) := by
  have hv := hC.nv6
  rcases opn hC hM hh (some 0) (some (-1)) FU 0 (by omega) (by rw [FU_eq]; omega) with ⟨s, -, g⟩ | ⟨g1, g2⟩
  · exact Or.inl ⟨s, g⟩
  · exact Or.inr ⟨fun s hs => g1 s (Nat.zero_le _) hs, g2⟩
theorem B_open_ok : B_open Inv := by
  rintro k S P N M a1 hk ⟨ns, nc, nv, nt, tn, bn, ch, hC, hM, hR⟩
  have hI : Inv (k + 1) S P N M := Inv_up _ _ _ _ _ ⟨ns, nc, nv, nt, tn, bn, ch, hC, hM, hR⟩
  have hb := hC.nt4
  have hv := hC.nv6
  have none_ : (a1 < 0 ∨ nI nv ≤ a1) → ∃ v S' P' M', f5_open S P a1 = some (v, S', P') ∧ f6_open M a1 = some (v, M') ∧ Inv (k + 1) S' P' N M' := by
    intro h
    refine ⟨0, S, P, M, ?_, ?_, hI⟩
    · unfold f5_open; rw [sn_none hC h]; rfl
    · unfold f6_open; rw [isS_none hM h]; rfl
  rcases pk_ix a1 (n := nv) (by omega) with h | h | ⟨s, hs, rfl⟩
  · exact none_ (Or.inl h)
  · exact none_ (Or.inr h)
  · unfold f5_open f6_open
    rw [sn_some hC hs, isS_some hM hv hs]
    simp only [Option.bind_some, Option.elim_some, if_neg one_ne, lt, hC.s2 hs, ix_nI (show s < 60 by omega) (by decide), (hM.how s hs).1, (hM.sail s hs).1]
    by_cases h0 : S 204 s = 0
    · simp only [if_pos h0]
      rcases opn0 hC hM (hC.s3 hs) with ⟨s', q1, q2, q3, q4, q5⟩ | ⟨q1, q4, q5⟩
      · rw [q4, q5]
        simp only [Option.bind_some, if_neg one_ne, if_neg (nI_neg1 (show s' < 2 ^ 31 by omega))]
        exact ⟨_, _, _, _, rfl, rfl, hI⟩
      · rw [q4, q5]
        simp only [Option.bind_some, if_true]
        refine ⟨_, _, _, _, rfl, rfl, Inv_up _ _ _ _ _ ⟨ns, nc, nv, nt, tn, bn, ch, ?_, ?_, ?_⟩⟩
        · have f206 : S 206 s = -1 := (hC.how s hs).2.2.1 h0
          refine ⟨hC.cnt, hC.ship, hC.cab, hC.cabn, hC.sail, ?_, ?_, ?_, hC.tick, ?_, hC.cb, hC.tk, hC.uq, hC.std, hC.turn, hC.brd, hC.lnk, hC.mem, hC.dl, hC.ctg⟩
          · intro s' hs'
            obtain ⟨a, b, c, d⟩ := hC.how s' hs'
            refine ⟨?_, b, ?_, d⟩
            · rw [up_eq]; split
              · exact Or.inr (Or.inl rfl)
              · exact a
            · rw [up_eq]; split
              · intro e; exact absurd e one_ne
              · exact c
          · intro s1 s2 h1 h2
            rw [up_eq, up_eq]
            intro e1 e2 e3
            by_cases g1 : s1 = s <;> by_cases g2 : s2 = s
            · rw [g1, g2]
            · rw [if_neg g2] at e2; exact absurd ⟨by rw [← e3, g1], e2⟩ (q1 s2 h2)
            · rw [if_neg g1] at e1; exact absurd ⟨by rw [e3, g2], e1⟩ (q1 s1 h1)
            · rw [if_neg g1] at e1; rw [if_neg g2] at e2; exact hC.one s1 s2 h1 h2 e1 e2 e3
          · intro s' t hs' hp
            obtain ⟨a, b, c, d, e⟩ := hC.ramp s' t hs' hp
            refine ⟨a, b, c, ?_, e⟩
            rw [up_eq]; split
            · rfl
            · exact d
          · intro t ht h3
            rw [up_eq]; split
            · rfl
            · exact hC.ab t ht h3
        · refine ⟨hM.cnt, hM.ship, hM.cab, hM.sail, ?_, ?_, hM.ramp, hM.tick, hM.turn, hM.brd, hM.log, ?_⟩
          · intro s' hs'
            obtain ⟨a, b⟩ := hM.how s' hs'
            refine ⟨?_, b⟩
            rw [up_eq, up_eq, a]
          · intro s' hs' g
            refine hM.off s' hs' ?_
            rw [up_eq] at g
            by_cases e : s' = s
            · rw [e]; exact Or.inl h0
            · rw [if_neg e] at g; exact g
          · intro s' hs'
            obtain ⟨a, b⟩ := hM.new s' hs'
            refine ⟨?_, b⟩
            rw [up_eq, if_neg (by omega)]; exact a
        · intro s' hs' g1 g2
          have f206 : S 206 s = -1 := (hC.how s hs).2.2.1 h0
          have g2' : S 206 s' = 0 := g2
          rw [up_eq] at g1
          by_cases e : s' = s
          · rw [e, f206] at g2'; exact absurd g2' (by decide)
          · rw [if_neg e] at g1; exact hR s' hs' g1 g2'
    · simp only [if_neg h0]
      exact ⟨_, _, _, _, rfl, rfl, hI⟩
end UPD
