/-! a place is cleared -/
section CLEAR
variable {k ns nc nv nt tn bn : Nat} {ch : Nat → Nat → List Nat} {S : TS} {P : TP} {N : TN} {M : TS}
def lastO : Option Nat → List Nat → Option Nat
  | y, [] => y
  | _, a :: A => lastO (some a) A
theorem na15 {t : Nat} (K : Option Nat → Option (Option Nat)) : ∀ (A B : List Nat) (n : Nat) (y r : Option Nat), linked (P 415) r (A ++ B) → (∀ a ∈ A, ¬ S 410 t ≤ S 410 a) → (∀ b B', B = b :: B' → S 410 t ≤ S 410 b) → A.length < n → f3_nextAhead_15 K S P t n y r = K (lastO y A) := by
  intro A
  induction A with
  | nil =>
    intro B n y r h1 h2 h3 h4
    cases n with
    | zero => omega
    | succ n =>
      cases B with
      | nil => have h1 : r = none := h1; subst h1; rfl
      | cons b B =>
        have h1 : r = some b := h1.1
        subst h1
        rw [f3_nextAhead_15]
        simp only [Option.elim_some]
        rw [if_pos (h3 b B rfl)]; rfl
  | cons a A ih =>
    intro B n y r h1 h2 h3 h4
    cases n with
    | zero => omega
    | succ n =>
      obtain ⟨h1, h1'⟩ := h1
      subst h1
      rw [f3_nextAhead_15]
      simp only [Option.elim_some, lt]
      rw [if_neg (h2 a (List.mem_cons_self ..))]
      exact ih B n (some a) (P 415 a 0) h1' (fun x hx => h2 x (List.mem_cons_of_mem _ hx)) h3 (by simp only [List.length_cons] at h4; omega)
theorem lastO_mem : ∀ (A : List Nat) (y : Option Nat) (a : Nat), lastO y A = some a → y = some a ∧ A = [] ∨ a ∈ A
  | [], y, a, h => Or.inl ⟨h, rfl⟩
  | x :: A, y, a, h => by
    rcases lastO_mem A (some x) a h with ⟨e, -⟩ | e
    · rw [Option.some.inj e]; exact Or.inr (List.mem_cons_self ..)
    · exact Or.inr (List.mem_cons_of_mem _ e)
theorem lastO_none : ∀ (A : List Nat) (y : Option Nat), lastO y A = none → A = []
  | [], _, _ => rfl
  | x :: A, y, h => by
    have := lastO_none A (some x) h
    subst this
    exact absurd h (by simp [lastO])
/-- the list up to its last, which is linked to what follows anew -/
theorem relink {b b' : Nat → Nat → Option Nat} {v : Option Nat} {C : List Nat} {a : Nat} : ∀ (A B : List Nat) (y r : Option Nat), A ≠ [] → lastO y A = some a → A.Nodup → linked b r (A ++ B) → linked b' v C → b' a 0 = v → (∀ x ∈ A, x ≠ a → b' x 0 = b x 0) → linked b' r (A ++ C)
  | [], _, _, _, h, _, _, _, _, _, _ => absurd rfl h
  | [x], B, y, r, _, h2, _, h4, h5, h6, _ => by
    have h2 : x = a := Option.some.inj h2
    subst h2
    exact ⟨h4.1, by rw [h6]; exact h5⟩
  | x :: z :: A, B, y, r, _, h2, h3, h4, h5, h6, h7 => by
    have hx : x ≠ a := by
      intro e
      have h2' : lastO (some z) A = some a := h2
      have hm : a ∈ z :: A := by
        rcases lastO_mem A (some z) a h2' with ⟨q, -⟩ | q
        · rw [Option.some.inj q]; exact List.mem_cons_self ..
        · exact List.mem_cons_of_mem _ q
      rw [List.nodup_cons] at h3
      rw [← e] at hm
      exact h3.1 hm
    refine ⟨h4.1, ?_⟩
    rw [h7 x (List.mem_cons_self ..) hx]
    exact relink (z :: A) B (some x) (b x 0) (by simp) h2 (List.nodup_cons.mp h3).2 h4.2 h5 h6 (fun w hw => h7 w (List.mem_cons_of_mem _ hw))
theorem linked_tail {b : Nat → Nat → Option Nat} {t : Nat} {B : List Nat} : ∀ (A : List Nat) (r : Option Nat), linked b r (A ++ t :: B) → linked b (b t 0) B
  | [], r, h => h.2
  | a :: A, r, h => linked_tail A _ h.2
def sC (S : TS) (i t : Nat) : TS := up (up (up (up S 408 t (-1)) 409 t (-1)) 410 t (-1)) 306 i (S 306 i - 1)
def pC (P : TP) (i j t a : Nat) (x y : Option Nat) : TP := up3 (up3 (up3 P 1400 i j x) 415 a 0 y) 415 t 0 none
theorem pC_o {i j t a u : Nat} {x y : Option Nat} (h1 : u ≠ a) (h2 : u ≠ t) (q : Nat) : pC P i j t a x y 415 u q = P 415 u q := by
  unfold pC; rw [up3_i h2, up3_i h1, up3_c (by decide)]
theorem clr5 (hS : CI_ship ns S P) {i d l t : Nat} (hi : i < ns) (hd : d < nn (S 301 i)) (hl : l < nn (S 302 i)) (h8 : S 408 t = nI d) (h9 : S 409 t = nI l) {A B : List Nat} (hL : linked (P 415) (P 1400 i (d * nn (S 302 i) + l)) (A ++ t :: B)) (hN : (A ++ t :: B).Nodup) (hA : ∀ a ∈ A, ¬ S 410 t ≤ S 410 a) (hn : A.length ≤ 400) : ∃ x a y, f3_clearPlace S P i t = some (sC S i t, pC P i (d * nn (S 302 i) + l) t a x y) ∧ (a = t ∨ a ∈ A) ∧ linked (pC P i (d * nn (S 302 i) + l) t a x y 415) (pC P i (d * nn (S 302 i) + l) t a x y 1400 i (d * nn (S 302 i) + l)) (A ++ B) := by
  obtain ⟨D, W, z, h1, h2, h3, h4, e1, e2, e3, e4, b1, b2, b3, b4, b5, b6, hm⟩ := dims hS hi
  have hna : f3_nextAhead S P i t = some (lastO none A) := by
    unfold f3_nextAhead
    rw [h8, h9, nb hS hi hd hl, Option.bind_some]
    exact na15 (fun w5 => some w5) A (t :: B) FU none _ hL hA (fun b B' e => by rw [(List.cons.inj e).1]; exact Int32.le_refl _) (by rw [FU_eq]; omega)
  have hNA : A.Nodup := (List.nodup_append.mp hN).1
  have hNB : (t :: B).Nodup := (List.nodup_append.mp hN).2.1
  have hdis : ∀ x ∈ A, ∀ y ∈ t :: B, x ≠ y := (List.nodup_append.mp hN).2.2
  have htail := linked_tail A _ hL
  unfold f3_clearPlace
  rw [hna]
  simp only [Option.bind_some, lt]
  cases hla : lastO none A with
  | none =>
    have hA0 := lastO_none A none hla
    subst hA0
    refine ⟨P 415 t 0, t, P 415 t 0, ?_, Or.inl rfl, ?_⟩
    · have hc : f3_chain S P i t none (P 415 t 0) = some (S, up3 P 1400 i (d * nn (S 302 i) + l) (P 415 t 0)) := by
        unfold f3_chain
        rw [h8, h9, hl1 hS hi hd hl]
        simp only [Option.elim_none, Option.bind_some, if_neg one_ne, lt, (hS i hi).2.1]
        have hj := jlt (by rw [e1] at hd; exact hd) (by rw [e2] at hl; exact hl)
        rw [h2, h4, pk_mul, nI_add, nI_clamp (by omega), ix_nI (by omega) (by omega), nn_nI (by omega)]; rfl
      rw [hc]
      unfold pC
      rw [up3_id (P := up3 P 1400 i (d * nn (S 302 i) + l) (P 415 t 0)) (c := 415) (i := t) (v := P 415 t 0) (by rw [up3_c (by decide)])]
      rfl
    · show linked (up3 (up3 (up3 P 1400 i (d * nn (S 302 i) + l) (P 415 t 0)) 415 t 0 (P 415 t 0)) 415 t 0 none 415) (up3 P 1400 i (d * nn (S 302 i) + l) (P 415 t 0) 1400 i (d * nn (S 302 i) + l)) ([] ++ B)
      rw [up3_v]
      refine linked_congr (b := P 415) (fun u hu => ?_) htail
      have hu' : u ≠ t := fun e => by rw [e] at hu; exact (List.nodup_cons.mp hNB).1 hu
      rw [up3_i hu', up3_i hu', up3_c (by decide)]
  | some a =>
    have ha : a ∈ A := by
      rcases lastO_mem A none a hla with ⟨q, -⟩ | q
      · exact absurd q (by simp)
      · exact q
    have hat : a ≠ t := hdis a ha t (List.mem_cons_self ..)
    have hA0 : A ≠ [] := fun e => by rw [e] at ha; exact absurd ha (by simp)
    refine ⟨P 1400 i (d * nn (S 302 i) + l), a, P 415 t 0, ?_, Or.inr ha, ?_⟩
    · have hc : f3_chain S P i t (some a) (P 415 t 0) = some (S, up3 P 415 a 0 (P 415 t 0)) := rfl
      rw [hc]
      unfold pC
      have hid : up3 P 1400 i (d * nn (S 302 i) + l) (P 1400 i (d * nn (S 302 i) + l)) = P := by
        funext c' i' j'
        by_cases q1 : c' = 1400
        · subst q1
          by_cases q2 : i' = i
          · subst q2
            by_cases q3 : j' = d * nn (S 302 i') + l
            · subst q3; rw [up3_v]
            · rw [up3_j q3]
          · rw [up3_i q2]
        · rw [up3_c q1]
      rw [hid]
      rfl
    · have e0 : pC P i (d * nn (S 302 i) + l) t a (P 1400 i (d * nn (S 302 i) + l)) (P 415 t 0) 1400 i (d * nn (S 302 i) + l) = P 1400 i (d * nn (S 302 i) + l) := by
        show up3 P 1400 i (d * nn (S 302 i) + l) (P 1400 i (d * nn (S 302 i) + l)) 1400 i (d * nn (S 302 i) + l) = _
        rw [up3_v]
      rw [e0]
      refine relink A (t :: B) none _ hA0 hla hNA hL (v := P 415 t 0) ?_ ?_ ?_
      · refine linked_congr (b := P 415) (fun u hu => pC_o ?_ ?_ 0) htail
        · exact fun e => hdis a ha u (List.mem_cons_of_mem _ hu) e.symm
        · intro e; rw [e] at hu; exact (List.nodup_cons.mp hNB).1 hu
      · unfold pC; rw [up3_i hat, up3_v]
      · intro u hu hua
        exact pC_o hua (hdis u hu t (List.mem_cons_self ..)) 0
theorem free5c (hC : CI k ns nc nv nt tn ch S P N) {t : Nat} (ht : t < nt) (h3 : S 406 t = 3) {X : TS} (x1 : X 411 t = S 411 t) (x2 : X 503 0 = S 503 0) {Q : TP} (hQ : ∀ c, Q 800 0 c = P 800 0 c) : ∃ z v, f5_freeCabin X Q t = some (up X 102 z v, Q) ∧ ((S 411 t = -1 ∧ v = X 102 z) ∨ (S 411 t = nI z ∧ z < nc ∧ v = 0)) := by
  have hn := hC.nc1
  unfold f5_freeCabin
  rw [x1, x2, hC.c3]
  rcases hC.cb t ht h3 with e | ⟨c, hc, e, -⟩
  · refine ⟨0, X 102 0, ?_, Or.inl ⟨e, rfl⟩⟩
    rw [e, within_f (Or.inl (by decide)), up_id]; rfl
  · refine ⟨c, 0, ?_, Or.inr ⟨e, hc, rfl⟩⟩
    rw [e, within_t (nI_pos (by omega)) (by rw [sub1_lt (by omega)]; exact nI_ge hc (by omega)), Option.bind_some, if_neg one_ne, ix_nI (by omega) (by decide)]
    simp only [Option.bind_some, lt, hQ, hC.b8 hc]
/-- the world after a ticket has left its place -/
def sO (S : TS) (i t z : Nat) (v u w : Int32) : TS := up (up (up (sC S i t) 102 z v) 411 t u) 406 t w
theorem sO_o {i t z t' : Nat} {v u w : Int32} (h : t' ≠ t) (c : Nat) (h1 : c ≠ 306) (h2 : c ≠ 102) : sO S i t z v u w c t' = S c t' := by
  unfold sO sC; rw [up_i h, up_i h, up_c h2, up_c h1, up_i h, up_i h, up_i h]
theorem sO_6 {i t z : Nat} {v u w : Int32} : sO S i t z v u w 406 t = w := by unfold sO; rw [up_v]
theorem contig_pre {pl ln : Nat → Int32} {B : List Nat} : ∀ {A : List Nat} {p : Nat}, contig pl ln p (A ++ B) → contig pl ln p A
  | [], _, _ => trivial
  | a :: A, p, h => ⟨h.1, contig_pre h.2⟩
theorem total_pre {ln : Nat → Int32} {B : List Nat} : ∀ {A : List Nat}, total ln (A ++ B) = total ln A + total ln B
  | [] => (Nat.zero_add _).symm
  | a :: A => by simp only [List.cons_append, total]; rw [total_pre, Nat.add_assoc]
def chS (ch : Nat → Nat → List Nat) (i j : Nat) (L : List Nat) : Nat → Nat → List Nat := fun i' j' => if i' = i ∧ j' = j then L else ch i' j'
end CLEAR
