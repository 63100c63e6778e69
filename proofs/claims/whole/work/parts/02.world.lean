/-! THE WORLD: every cell of the class and of the reference by kind and number; the values that they hold are S (ints), P (references, as numbers of their kind), M (the reference's ints). A code c of S, P, M stands for field or array c; c / 100 is the kind. -/
abbrev TS : Type := Nat → Nat → Int32
abbrev TP : Type := Nat → Nat → Nat → Option Nat
abbrev TN : Type := Nat → Nat
abbrev lt {α β : Type} (a : α) (f : α → β) : β := f a
theorem lt_ex {α β : Type} {a : α} {f : α → β} {b : β} (h : lt a f = b) : ∃ x, x = a ∧ f x = b := ⟨a, rfl, h⟩
theorem ob {α β : Type} {o : Option α} {f : α → Option β} {b : β} (h : o.bind f = some b) : ∃ a, o = some a ∧ f a = some b := Option.bind_eq_some_iff.mp h
def b2 {α β γ : Type} (o : Option (α × β)) (f : α → β → Option γ) : Option γ := o.bind fun q => f q.1 q.2
def b3 {α β γ δ : Type} (o : Option (α × β × γ)) (f : α → β → γ → Option δ) : Option δ := o.bind fun q => f q.1 q.2.1 q.2.2
def b4 {α β γ δ ε : Type} (o : Option (α × β × γ × δ)) (f : α → β → γ → δ → Option ε) : Option ε := o.bind fun q => f q.1 q.2.1 q.2.2.1 q.2.2.2
theorem ob2 {α β γ : Type} {o : Option (α × β)} {f : α → β → Option γ} {r : γ} (h : b2 o f = some r) : ∃ a b, o = some (a, b) ∧ f a b = some r := by
  obtain ⟨⟨a, b⟩, h1, h2⟩ := Option.bind_eq_some_iff.mp h
  exact ⟨a, b, h1, h2⟩
theorem ob3 {α β γ δ : Type} {o : Option (α × β × γ)} {f : α → β → γ → Option δ} {r : δ} (h : b3 o f = some r) : ∃ a b c, o = some (a, b, c) ∧ f a b c = some r := by
  obtain ⟨⟨a, b, c⟩, h1, h2⟩ := Option.bind_eq_some_iff.mp h
  exact ⟨a, b, c, h1, h2⟩
theorem ob4 {α β γ δ ε : Type} {o : Option (α × β × γ × δ)} {f : α → β → γ → δ → Option ε} {r : ε} (h : b4 o f = some r) : ∃ a b c d, o = some (a, b, c, d) ∧ f a b c d = some r := by
  obtain ⟨⟨a, b, c, d⟩, h1, h2⟩ := Option.bind_eq_some_iff.mp h
  exact ⟨a, b, c, d, h1, h2⟩
theorem el_n {α β : Type} {a b : β} {f : α → β} (h : (none : Option α).elim a f = b) : a = b := h
theorem el_s {α β : Type} {a b : β} {f : α → β} {x : α} (h : (some x).elim a f = b) : f x = b := h
theorem it_t {c : Prop} [Decidable c] {α : Type} {a b r : α} (h : (if c then a else b) = r) (hc : c) : a = r := by rw [if_pos hc] at h; exact h
theorem it_f {c : Prop} [Decidable c] {α : Type} {a b r : α} (h : (if c then a else b) = r) (hc : ¬ c) : b = r := by rw [if_neg hc] at h; exact h
theorem it_ok {c : Prop} [Decidable c] {α : Type} {a : Option α} {r : α} (h : (if c then a else none) = some r) : c ∧ a = some r := by
  by_cases hc : c
  · rw [if_pos hc] at h; exact ⟨hc, h⟩
  · rw [if_neg hc] at h; cases h
theorem it_no {c : Prop} [Decidable c] {α : Type} {a : Option α} {r : α} (h : (if c then none else a) = some r) : ¬ c ∧ a = some r := by
  by_cases hc : c
  · rw [if_pos hc] at h; cases h
  · rw [if_neg hc] at h; exact ⟨hc, h⟩
def ix (x : Int32) (n : Nat) : Option Nat := if x < 0 then none else if n ≤ x.toNatClampNeg then none else some x.toNatClampNeg
theorem ix_some {x : Int32} {n i : Nat} (h : ix x n = some i) : vp_in x n ∧ x.toNatClampNeg = i := by
  unfold ix at h
  obtain ⟨h1, h⟩ := it_no h
  obtain ⟨h2, h⟩ := it_no h
  exact ⟨fun q => q.elim h1 h2, Option.some.inj h⟩
def up (S : TS) (c i : Nat) (v : Int32) : TS := fun c' => if c' = c then upd (S c) i v else S c'
def up3 (P : TP) (c i j : Nat) (v : Option Nat) : TP := fun c' => if c' = c then (fun i' => if i' = i then va_up (P c i) j v else P c i') else P c'
def upN (N : TN) (k : Nat) : TN := fun k' => if k' = k then N k + 1 else N k'
def clr (S : TS) (k i : Nat) : TS := fun c i' => if c / 100 = k ∧ i' = i then 0 else S c i'
def clrP (P : TP) (k i : Nat) : TP := fun c i' => if c / 100 = k ∧ i' = i then (fun _ => none) else P c i'
theorem up_c {S : TS} {c i c' : Nat} {v : Int32} (h : c' ≠ c) : up S c i v c' = S c' := by simp [up, h]
theorem up_s {S : TS} {c i : Nat} {v : Int32} : up S c i v c = upd (S c) i v := by simp [up]
theorem up_i {S : TS} {c i c' i' : Nat} {v : Int32} (h : i' ≠ i) : up S c i v c' i' = S c' i' := by
  by_cases hc : c' = c
  · subst hc; simp [up, upd, h]
  · rw [up_c hc]
theorem up_v {S : TS} {c i : Nat} {v : Int32} : up S c i v c i = v := by simp [up, upd]
theorem up3_c {P : TP} {c i j c' : Nat} {v : Option Nat} (h : c' ≠ c) : up3 P c i j v c' = P c' := by simp [up3, h]
theorem up3_i {P : TP} {c i j c' i' : Nat} {v : Option Nat} (h : i' ≠ i) : up3 P c i j v c' i' = P c' i' := by
  by_cases hc : c' = c
  · subst hc; simp [up3, h]
  · rw [up3_c hc]
theorem up3_s {P : TP} {c i j : Nat} {v : Option Nat} : up3 P c i j v c i = va_up (P c i) j v := by simp [up3]
theorem up3_v {P : TP} {c i j : Nat} {v : Option Nat} : up3 P c i j v c i j = v := by simp [up3, va_up]
def FU : Nat := 6000

def tgt (c : Nat) : Nat := match c with
  | 0 => 4
  | 100 => 3
  | 201 => 3
  | 207 => 4
  | 307 => 14
  | 401 => 2
  | 415 => 4
  | 700 => 3
  | 800 => 1
  | 900 => 2
  | 1000 => 4
  | 1400 => 4
  | _ => 0
def Vd (N : TN) (P : TP) : Prop := ∀ c i j x, P c i j = some x → x < N (tgt c)
def mty (k : Nat) : Nat := if k = 23 then 1 else if k = 34 then 1 else if k = 46 then 1 else 0
def mlen (k : Nat) : Nat := if k < 24 then 12 else if k < 26 then 120 else if k < 35 then 60 else if k = 35 then 5200 else if k = 36 then 400 else if k < 40 then 3000 else 2000
def EE (cA : Nat → ClassId) (ad : Nat → Nat → Nat) (S : TS) (P : TP) (M : TS) (k i : Nat) : va_E := match k with
  | 0 => .inr (0, [va_rf ((P 0 i 0).map (ad 4)), .int (S 1 i), .int (S 2 i)])
  | 1 => .inr (1, [va_rf ((P 100 i 0).map (ad 3)), .int (S 101 i), .int (S 102 i)])
  | 2 => .inr (2, [.int (S 200 i), va_rf ((P 201 i 0).map (ad 3)), .int (S 202 i), .int (S 203 i), .int (S 204 i), .int (S 205 i), .int (S 206 i), va_rf ((P 207 i 0).map (ad 4)), .int (S 208 i)])
  | 3 => .inr (3, [.int (S 300 i), .int (S 301 i), .int (S 302 i), .int (S 303 i), .int (S 304 i), .int (S 305 i), .int (S 306 i), va_rf ((P 307 i 0).map (ad 14))])
  | 4 => .inr (4, [.int (S 400 i), va_rf ((P 401 i 0).map (ad 2)), .int (S 402 i), .int (S 403 i), .int (S 404 i), .int (S 405 i), .int (S 406 i), .int (S 407 i), .int (S 408 i), .int (S 409 i), .int (S 410 i), .int (S 411 i), .int (S 412 i), .int (S 413 i), .int (S 414 i), va_rf ((P 415 i 0).map (ad 4))])
  | 5 => .inr (5, [.ref (ad 7 0), .int (S 501 0), .ref (ad 8 0), .int (S 503 0), .ref (ad 9 0), .int (S 505 0), .ref (ad 10 0), .int (S 507 0), .ref (ad 11 0), .ref (ad 12 0), .ref (ad 13 0), .int (S 511 0)])
  | 6 => .inr (6, [.ref (ad 20 0), .ref (ad 21 0), .ref (ad 22 0), .ref (ad 23 0), .ref (ad 24 0), .ref (ad 25 0), .ref (ad 26 0), .ref (ad 27 0), .ref (ad 28 0), .ref (ad 29 0), .ref (ad 30 0), .ref (ad 31 0), .ref (ad 32 0), .ref (ad 33 0), .ref (ad 34 0), .ref (ad 35 0), .ref (ad 36 0), .ref (ad 37 0), .ref (ad 38 0), .ref (ad 39 0), .int (M 620 0), .int (M 621 0), .int (M 622 0), .int (M 623 0), .int (M 624 0), .int (M 625 0), .ref (ad 46 0), .int (M 627 0), .int (M 628 0), .int (M 629 0), .int (M 630 0)])
  | 7 => .inl (cA 4, 12, .inr (.inr (.inr (.inr (fun j => (P 700 0 j).map (ad 3))))))
  | 8 => .inl (cA 2, 120, .inr (.inr (.inr (.inr (fun j => (P 800 0 j).map (ad 1))))))
  | 9 => .inl (cA 3, 60, .inr (.inr (.inr (.inr (fun j => (P 900 0 j).map (ad 2))))))
  | 10 => .inl (cA 5, 400, .inr (.inr (.inr (.inr (fun j => (P 1000 0 j).map (ad 4))))))
  | 11 => .inl (cA 0, 3000, .inl (S 1100))
  | 12 => .inl (cA 0, 3000, .inl (S 1200))
  | 13 => .inl (cA 0, 3000, .inl (S 1300))
  | 14 => .inl (cA 5, (S 1499 i).toNatClampNeg, .inr (.inr (.inr (.inr (fun j => (P 1400 i j).map (ad 4))))))
  | k => .inl (cA (mty k), mlen k, .inl (M (100 * k)))
def Fx : List Nat := [5, 6, 7, 8, 9, 10, 11, 12, 13, 20, 21, 22, 23, 24, 25, 26, 27, 28, 29, 30, 31, 32, 33, 34, 35, 36, 37, 38, 39, 46]
def tysW (cA : Nat → ClassId) : List (ClassId × FieldType) := [(cA 0, .int), (cA 1, .boolean), (cA 2, .object RX1), (cA 3, .object RX2), (cA 4, .object RX3), (cA 5, .object RX4)]
def Wd (D : va_G) (cA : Nat → ClassId) (z : Nat) (ad : Nat → Nat → Nat) (N : TN) (S : TS) (P : TP) (M : TS) (H : Heap) : Prop :=
  (∀ k i, i < N k → va_at D vwCl (ad k i, EE cA ad S P M k i) H) ∧ (∀ k i k' i', i < N k → i' < N k' → ad k i = ad k' i' → k = k' ∧ i = i') ∧ (∀ k i, i < N k → z ≤ ad k i) ∧ Vd N P ∧ (∀ k ∈ Fx, N k = 1)
theorem Wd.fx {D : va_G} {cA : Nat → ClassId} {z : Nat} {ad : Nat → Nat → Nat} {N : TN} {S : TS} {P : TP} {M : TS} {H : Heap} (h : Wd D cA z ad N S P M H) (k : Nat) (hk : (Fx.contains k) = true) : 0 < N k := by
  rw [h.2.2.2.2 k (by simpa using hk)]; exact Nat.one_pos
theorem Wd.v {D : va_G} {cA : Nat → ClassId} {z : Nat} {ad : Nat → Nat → Nat} {N : TN} {S : TS} {P : TP} {M : TS} {H : Heap} (h : Wd D cA z ad N S P M H) {c i j : Nat} {r : Option Nat} (e : r = P c i j) : ∀ x, r = some x → x < N (tgt c) := fun x hx => h.2.2.2.1 c i j x (e ▸ hx)
theorem Wd.set {D : va_G} {cA : Nat → ClassId} {z : Nat} {ad : Nat → Nat → Nat} {N : TN} {S S' : TS} {P P' : TP} {M M' : TS} {H H' : Heap} (hW : Wd D cA z ad N S P M H) {k i : Nat} (hi : i < N k) (h1 : va_at D vwCl (ad k i, EE cA ad S' P' M' k i) H') (hq : ∀ q, q ≠ ad k i → H'[q]? = H[q]?) (hne : ∀ k' i', i' < N k' → ¬(k' = k ∧ i' = i) → EE cA ad S' P' M' k' i' = EE cA ad S P M k' i') (hV : Vd N P') : Wd D cA z ad N S' P' M' H' := by
  refine ⟨fun k' i' hi' => ?_, hW.2.1, hW.2.2.1, hV, hW.2.2.2.2⟩
  by_cases h : k' = k ∧ i' = i
  · obtain ⟨rfl, rfl⟩ := h; exact h1
  · rw [hne k' i' hi' h]
    exact (hW.1 k' i' hi').kept (hq _ (fun e => h (hW.2.1 k' i' k i hi' hi e)))
theorem EE_0 (cA : Nat → ClassId) (ad : Nat → Nat → Nat) (S : TS) (P : TP) (M : TS) (i : Nat) : EE cA ad S P M 0 i = .inr (0, [va_rf ((P 0 i 0).map (ad 4)), .int (S 1 i), .int (S 2 i)]) := rfl
theorem EE_1 (cA : Nat → ClassId) (ad : Nat → Nat → Nat) (S : TS) (P : TP) (M : TS) (i : Nat) : EE cA ad S P M 1 i = .inr (1, [va_rf ((P 100 i 0).map (ad 3)), .int (S 101 i), .int (S 102 i)]) := rfl
theorem EE_2 (cA : Nat → ClassId) (ad : Nat → Nat → Nat) (S : TS) (P : TP) (M : TS) (i : Nat) : EE cA ad S P M 2 i = .inr (2, [.int (S 200 i), va_rf ((P 201 i 0).map (ad 3)), .int (S 202 i), .int (S 203 i), .int (S 204 i), .int (S 205 i), .int (S 206 i), va_rf ((P 207 i 0).map (ad 4)), .int (S 208 i)]) := rfl
theorem EE_3 (cA : Nat → ClassId) (ad : Nat → Nat → Nat) (S : TS) (P : TP) (M : TS) (i : Nat) : EE cA ad S P M 3 i = .inr (3, [.int (S 300 i), .int (S 301 i), .int (S 302 i), .int (S 303 i), .int (S 304 i), .int (S 305 i), .int (S 306 i), va_rf ((P 307 i 0).map (ad 14))]) := rfl
theorem EE_4 (cA : Nat → ClassId) (ad : Nat → Nat → Nat) (S : TS) (P : TP) (M : TS) (i : Nat) : EE cA ad S P M 4 i = .inr (4, [.int (S 400 i), va_rf ((P 401 i 0).map (ad 2)), .int (S 402 i), .int (S 403 i), .int (S 404 i), .int (S 405 i), .int (S 406 i), .int (S 407 i), .int (S 408 i), .int (S 409 i), .int (S 410 i), .int (S 411 i), .int (S 412 i), .int (S 413 i), .int (S 414 i), va_rf ((P 415 i 0).map (ad 4))]) := rfl
theorem EE_5 (cA : Nat → ClassId) (ad : Nat → Nat → Nat) (S : TS) (P : TP) (M : TS) (i : Nat) : EE cA ad S P M 5 i = .inr (5, [.ref (ad 7 0), .int (S 501 0), .ref (ad 8 0), .int (S 503 0), .ref (ad 9 0), .int (S 505 0), .ref (ad 10 0), .int (S 507 0), .ref (ad 11 0), .ref (ad 12 0), .ref (ad 13 0), .int (S 511 0)]) := rfl
theorem EE_6 (cA : Nat → ClassId) (ad : Nat → Nat → Nat) (S : TS) (P : TP) (M : TS) (i : Nat) : EE cA ad S P M 6 i = .inr (6, [.ref (ad 20 0), .ref (ad 21 0), .ref (ad 22 0), .ref (ad 23 0), .ref (ad 24 0), .ref (ad 25 0), .ref (ad 26 0), .ref (ad 27 0), .ref (ad 28 0), .ref (ad 29 0), .ref (ad 30 0), .ref (ad 31 0), .ref (ad 32 0), .ref (ad 33 0), .ref (ad 34 0), .ref (ad 35 0), .ref (ad 36 0), .ref (ad 37 0), .ref (ad 38 0), .ref (ad 39 0), .int (M 620 0), .int (M 621 0), .int (M 622 0), .int (M 623 0), .int (M 624 0), .int (M 625 0), .ref (ad 46 0), .int (M 627 0), .int (M 628 0), .int (M 629 0), .int (M 630 0)]) := rfl
theorem EE_7 (cA : Nat → ClassId) (ad : Nat → Nat → Nat) (S : TS) (P : TP) (M : TS) (i : Nat) : EE cA ad S P M 7 i = .inl (cA 4, 12, .inr (.inr (.inr (.inr (fun j => (P 700 0 j).map (ad 3)))))) := rfl
theorem EE_8 (cA : Nat → ClassId) (ad : Nat → Nat → Nat) (S : TS) (P : TP) (M : TS) (i : Nat) : EE cA ad S P M 8 i = .inl (cA 2, 120, .inr (.inr (.inr (.inr (fun j => (P 800 0 j).map (ad 1)))))) := rfl
theorem EE_9 (cA : Nat → ClassId) (ad : Nat → Nat → Nat) (S : TS) (P : TP) (M : TS) (i : Nat) : EE cA ad S P M 9 i = .inl (cA 3, 60, .inr (.inr (.inr (.inr (fun j => (P 900 0 j).map (ad 2)))))) := rfl
theorem EE_10 (cA : Nat → ClassId) (ad : Nat → Nat → Nat) (S : TS) (P : TP) (M : TS) (i : Nat) : EE cA ad S P M 10 i = .inl (cA 5, 400, .inr (.inr (.inr (.inr (fun j => (P 1000 0 j).map (ad 4)))))) := rfl
theorem EE_11 (cA : Nat → ClassId) (ad : Nat → Nat → Nat) (S : TS) (P : TP) (M : TS) (i : Nat) : EE cA ad S P M 11 i = .inl (cA 0, 3000, .inl (S 1100)) := rfl
theorem EE_12 (cA : Nat → ClassId) (ad : Nat → Nat → Nat) (S : TS) (P : TP) (M : TS) (i : Nat) : EE cA ad S P M 12 i = .inl (cA 0, 3000, .inl (S 1200)) := rfl
theorem EE_13 (cA : Nat → ClassId) (ad : Nat → Nat → Nat) (S : TS) (P : TP) (M : TS) (i : Nat) : EE cA ad S P M 13 i = .inl (cA 0, 3000, .inl (S 1300)) := rfl
theorem EE_14 (cA : Nat → ClassId) (ad : Nat → Nat → Nat) (S : TS) (P : TP) (M : TS) (i : Nat) : EE cA ad S P M 14 i = .inl (cA 5, (S 1499 i).toNatClampNeg, .inr (.inr (.inr (.inr (fun j => (P 1400 i j).map (ad 4)))))) := rfl
theorem EE_20 (cA : Nat → ClassId) (ad : Nat → Nat → Nat) (S : TS) (P : TP) (M : TS) (i : Nat) : EE cA ad S P M 20 i = .inl (cA 0, 12, .inl (M 2000)) := rfl
theorem EE_21 (cA : Nat → ClassId) (ad : Nat → Nat → Nat) (S : TS) (P : TP) (M : TS) (i : Nat) : EE cA ad S P M 21 i = .inl (cA 0, 12, .inl (M 2100)) := rfl
theorem EE_22 (cA : Nat → ClassId) (ad : Nat → Nat → Nat) (S : TS) (P : TP) (M : TS) (i : Nat) : EE cA ad S P M 22 i = .inl (cA 0, 12, .inl (M 2200)) := rfl
theorem EE_23 (cA : Nat → ClassId) (ad : Nat → Nat → Nat) (S : TS) (P : TP) (M : TS) (i : Nat) : EE cA ad S P M 23 i = .inl (cA 1, 12, .inl (M 2300)) := rfl
theorem EE_24 (cA : Nat → ClassId) (ad : Nat → Nat → Nat) (S : TS) (P : TP) (M : TS) (i : Nat) : EE cA ad S P M 24 i = .inl (cA 0, 120, .inl (M 2400)) := rfl
theorem EE_25 (cA : Nat → ClassId) (ad : Nat → Nat → Nat) (S : TS) (P : TP) (M : TS) (i : Nat) : EE cA ad S P M 25 i = .inl (cA 0, 120, .inl (M 2500)) := rfl
theorem EE_26 (cA : Nat → ClassId) (ad : Nat → Nat → Nat) (S : TS) (P : TP) (M : TS) (i : Nat) : EE cA ad S P M 26 i = .inl (cA 0, 60, .inl (M 2600)) := rfl
theorem EE_27 (cA : Nat → ClassId) (ad : Nat → Nat → Nat) (S : TS) (P : TP) (M : TS) (i : Nat) : EE cA ad S P M 27 i = .inl (cA 0, 60, .inl (M 2700)) := rfl
theorem EE_28 (cA : Nat → ClassId) (ad : Nat → Nat → Nat) (S : TS) (P : TP) (M : TS) (i : Nat) : EE cA ad S P M 28 i = .inl (cA 0, 60, .inl (M 2800)) := rfl
theorem EE_29 (cA : Nat → ClassId) (ad : Nat → Nat → Nat) (S : TS) (P : TP) (M : TS) (i : Nat) : EE cA ad S P M 29 i = .inl (cA 0, 60, .inl (M 2900)) := rfl
theorem EE_30 (cA : Nat → ClassId) (ad : Nat → Nat → Nat) (S : TS) (P : TP) (M : TS) (i : Nat) : EE cA ad S P M 30 i = .inl (cA 0, 60, .inl (M 3000)) := rfl
theorem EE_31 (cA : Nat → ClassId) (ad : Nat → Nat → Nat) (S : TS) (P : TP) (M : TS) (i : Nat) : EE cA ad S P M 31 i = .inl (cA 0, 60, .inl (M 3100)) := rfl
theorem EE_32 (cA : Nat → ClassId) (ad : Nat → Nat → Nat) (S : TS) (P : TP) (M : TS) (i : Nat) : EE cA ad S P M 32 i = .inl (cA 0, 60, .inl (M 3200)) := rfl
theorem EE_33 (cA : Nat → ClassId) (ad : Nat → Nat → Nat) (S : TS) (P : TP) (M : TS) (i : Nat) : EE cA ad S P M 33 i = .inl (cA 0, 60, .inl (M 3300)) := rfl
theorem EE_34 (cA : Nat → ClassId) (ad : Nat → Nat → Nat) (S : TS) (P : TP) (M : TS) (i : Nat) : EE cA ad S P M 34 i = .inl (cA 1, 60, .inl (M 3400)) := rfl
theorem EE_35 (cA : Nat → ClassId) (ad : Nat → Nat → Nat) (S : TS) (P : TP) (M : TS) (i : Nat) : EE cA ad S P M 35 i = .inl (cA 0, 5200, .inl (M 3500)) := rfl
theorem EE_36 (cA : Nat → ClassId) (ad : Nat → Nat → Nat) (S : TS) (P : TP) (M : TS) (i : Nat) : EE cA ad S P M 36 i = .inl (cA 0, 400, .inl (M 3600)) := rfl
theorem EE_37 (cA : Nat → ClassId) (ad : Nat → Nat → Nat) (S : TS) (P : TP) (M : TS) (i : Nat) : EE cA ad S P M 37 i = .inl (cA 0, 3000, .inl (M 3700)) := rfl
theorem EE_38 (cA : Nat → ClassId) (ad : Nat → Nat → Nat) (S : TS) (P : TP) (M : TS) (i : Nat) : EE cA ad S P M 38 i = .inl (cA 0, 3000, .inl (M 3800)) := rfl
theorem EE_39 (cA : Nat → ClassId) (ad : Nat → Nat → Nat) (S : TS) (P : TP) (M : TS) (i : Nat) : EE cA ad S P M 39 i = .inl (cA 0, 3000, .inl (M 3900)) := rfl
theorem EE_46 (cA : Nat → ClassId) (ad : Nat → Nat → Nat) (S : TS) (P : TP) (M : TS) (i : Nat) : EE cA ad S P M 46 i = .inl (cA 1, 2000, .inl (M 4600)) := rfl
theorem EE_ext {cA : Nat → ClassId} {ad : Nat → Nat → Nat} {S S' : TS} {P P' : TP} {M M' : TS} {k i : Nat} (hS : ∀ c, c / 100 = k → (k < 5 ∨ k = 14 → S' c i = S c i) ∧ (5 ≤ k → k ≠ 14 → S' c = S c)) (hP : ∀ c, c / 100 = k → (k < 5 ∨ k = 14 → P' c i = P c i) ∧ (5 ≤ k → k ≠ 14 → P' c = P c)) (hM : ∀ c, c / 100 = k → M' c = M c) : EE cA ad S' P' M' k i = EE cA ad S P M k i := by
  match k, hS, hP, hM with
  | 0, hS, hP, hM => rw [EE_0, EE_0, (hP 0 rfl).1 (by decide), (hS 1 rfl).1 (by decide), (hS 2 rfl).1 (by decide)]
  | 1, hS, hP, hM => rw [EE_1, EE_1, (hP 100 rfl).1 (by decide), (hS 101 rfl).1 (by decide), (hS 102 rfl).1 (by decide)]
  | 2, hS, hP, hM => rw [EE_2, EE_2, (hS 200 rfl).1 (by decide), (hP 201 rfl).1 (by decide), (hS 202 rfl).1 (by decide), (hS 203 rfl).1 (by decide), (hS 204 rfl).1 (by decide), (hS 205 rfl).1 (by decide), (hS 206 rfl).1 (by decide), (hP 207 rfl).1 (by decide), (hS 208 rfl).1 (by decide)]
  | 3, hS, hP, hM => rw [EE_3, EE_3, (hS 300 rfl).1 (by decide), (hS 301 rfl).1 (by decide), (hS 302 rfl).1 (by decide), (hS 303 rfl).1 (by decide), (hS 304 rfl).1 (by decide), (hS 305 rfl).1 (by decide), (hS 306 rfl).1 (by decide), (hP 307 rfl).1 (by decide)]
  | 4, hS, hP, hM => rw [EE_4, EE_4, (hS 400 rfl).1 (by decide), (hP 401 rfl).1 (by decide), (hS 402 rfl).1 (by decide), (hS 403 rfl).1 (by decide), (hS 404 rfl).1 (by decide), (hS 405 rfl).1 (by decide), (hS 406 rfl).1 (by decide), (hS 407 rfl).1 (by decide), (hS 408 rfl).1 (by decide), (hS 409 rfl).1 (by decide), (hS 410 rfl).1 (by decide), (hS 411 rfl).1 (by decide), (hS 412 rfl).1 (by decide), (hS 413 rfl).1 (by decide), (hS 414 rfl).1 (by decide), (hP 415 rfl).1 (by decide)]
  | 5, hS, hP, hM => rw [EE_5, EE_5, (hS 501 rfl).2 (by decide) (by decide), (hS 503 rfl).2 (by decide) (by decide), (hS 505 rfl).2 (by decide) (by decide), (hS 507 rfl).2 (by decide) (by decide), (hS 511 rfl).2 (by decide) (by decide)]
  | 6, hS, hP, hM => rw [EE_6, EE_6, hM 620 rfl, hM 621 rfl, hM 622 rfl, hM 623 rfl, hM 624 rfl, hM 625 rfl, hM 627 rfl, hM 628 rfl, hM 629 rfl, hM 630 rfl]
  | 7, hS, hP, hM => rw [EE_7, EE_7, (hP 700 rfl).2 (by decide) (by decide)]
  | 8, hS, hP, hM => rw [EE_8, EE_8, (hP 800 rfl).2 (by decide) (by decide)]
  | 9, hS, hP, hM => rw [EE_9, EE_9, (hP 900 rfl).2 (by decide) (by decide)]
  | 10, hS, hP, hM => rw [EE_10, EE_10, (hP 1000 rfl).2 (by decide) (by decide)]
  | 11, hS, hP, hM => rw [EE_11, EE_11, (hS 1100 rfl).2 (by decide) (by decide)]
  | 12, hS, hP, hM => rw [EE_12, EE_12, (hS 1200 rfl).2 (by decide) (by decide)]
  | 13, hS, hP, hM => rw [EE_13, EE_13, (hS 1300 rfl).2 (by decide) (by decide)]
  | 14, hS, hP, hM => rw [EE_14, EE_14, (hS 1499 rfl).1 (by decide), (hP 1400 rfl).1 (by decide)]
  | k + 15, hS, hP, hM => exact congrArg (fun f => (.inl (cA (mty (k + 15)), mlen (k + 15), .inl f) : va_E)) (hM (100 * (k + 15)) (by omega))
theorem Vd.up3 {N : TN} {P : TP} (h : Vd N P) {c i j : Nat} {r : Option Nat} (hr : ∀ x, r = some x → x < N (tgt c)) : Vd N (up3 P c i j r) := by
  intro c' i' j' x hx
  by_cases hc : c' = c
  · subst hc
    by_cases hi : i' = i
    · subst hi
      by_cases hj : j' = j
      · subst hj; rw [up3_v] at hx; exact hr x hx
      · rw [up3_s, va_up_ne _ _ hj] at hx; exact h _ _ _ _ hx
    · rw [up3_i hi] at hx; exact h _ _ _ _ hx
  · rw [up3_c hc] at hx; exact h _ _ _ _ hx
/-- one int of a small object or of a single one is set: the other entries stay -/
theorem ne_up {cA : Nat → ClassId} {ad : Nat → Nat → Nat} {N : TN} {S : TS} {P : TP} {M : TS} (k c x i : Nat) {v : Int32} (hc : c / 100 = k) (hx : k < 5 ∨ k = 14 → x = i) (h1 : 5 ≤ k → k ≠ 14 → N k = 1 ∧ i = 0) : ∀ k' i', i' < N k' → ¬(k' = k ∧ i' = i) → EE cA ad (up S c x v) P M k' i' = EE cA ad S P M k' i' := by
  intro k' i' hi' hne
  by_cases hk : k' = k
  · subst hk
    have hii : i' ≠ i := fun e => hne ⟨rfl, e⟩
    by_cases h5 : k' < 5 ∨ k' = 14
    · have hxi := hx h5
      subst hxi
      exact EE_ext (fun c' _ => ⟨fun _ => up_i hii, fun a b => absurd h5 (by omega)⟩) (fun _ _ => ⟨fun _ => rfl, fun _ _ => rfl⟩) (fun _ _ => rfl)
    · obtain ⟨g1, g2⟩ := h1 (by omega) (by omega)
      rw [g1] at hi'
      exact absurd (by omega) hii
  · have hcc : ∀ c', c' / 100 = k' → c' ≠ c := fun c' h e => hk (by rw [← h, e, hc])
    exact EE_ext (fun c' h => ⟨fun _ => by rw [up_c (hcc c' h)], fun _ _ => up_c (hcc c' h)⟩) (fun _ _ => ⟨fun _ => rfl, fun _ _ => rfl⟩) (fun _ _ => rfl)
theorem ne_up3 {cA : Nat → ClassId} {ad : Nat → Nat → Nat} {N : TN} {S : TS} {P : TP} {M : TS} (k c x j i : Nat) {v : Option Nat} (hc : c / 100 = k) (hx : k < 5 ∨ k = 14 → x = i) (h1 : 5 ≤ k → k ≠ 14 → N k = 1 ∧ i = 0) : ∀ k' i', i' < N k' → ¬(k' = k ∧ i' = i) → EE cA ad S (up3 P c x j v) M k' i' = EE cA ad S P M k' i' := by
  intro k' i' hi' hne
  by_cases hk : k' = k
  · subst hk
    have hii : i' ≠ i := fun e => hne ⟨rfl, e⟩
    by_cases h5 : k' < 5 ∨ k' = 14
    · have hxi := hx h5
      subst hxi
      exact EE_ext (fun _ _ => ⟨fun _ => rfl, fun _ _ => rfl⟩) (fun c' _ => ⟨fun _ => up3_i hii, fun a b => absurd h5 (by omega)⟩) (fun _ _ => rfl)
    · obtain ⟨g1, g2⟩ := h1 (by omega) (by omega)
      rw [g1] at hi'
      exact absurd (by omega) hii
  · have hcc : ∀ c', c' / 100 = k' → c' ≠ c := fun c' h e => hk (by rw [← h, e, hc])
    exact EE_ext (fun _ _ => ⟨fun _ => rfl, fun _ _ => rfl⟩) (fun c' h => ⟨fun _ => by rw [up3_c (hcc c' h)], fun _ _ => up3_c (hcc c' h)⟩) (fun _ _ => rfl)
theorem ne_M {cA : Nat → ClassId} {ad : Nat → Nat → Nat} {N : TN} {S : TS} {P : TP} {M : TS} (k c x : Nat) {v : Int32} (hc : c / 100 = k) (h5 : 5 ≤ k) (h1 : N k = 1) : ∀ k' i', i' < N k' → ¬(k' = k ∧ i' = 0) → EE cA ad S P (up M c x v) k' i' = EE cA ad S P M k' i' := by
  intro k' i' hi' hne
  have hk : k' ≠ k := fun e => by
    subst e
    rw [h1] at hi'
    exact hne ⟨rfl, by omega⟩
  have hcc : ∀ c', c' / 100 = k' → c' ≠ c := fun c' h e => hk (by rw [← h, e, hc])
  exact EE_ext (fun _ _ => ⟨fun _ => rfl, fun _ _ => rfl⟩) (fun _ _ => ⟨fun _ => rfl, fun _ _ => rfl⟩) (fun c' h => up_c (hcc c' h))
def nwF : List (String × Nat × String × String × String × String) := [(RX5, 266, RX3, "number", "I", RX5), (RX5, 254, RX3, "decks", "I", RX5), (RX5, 257, RX3, "lanes", "I", RX5), (RX5, 103, RX3, "length", "I", RX5), (RX5, 260, RX3, "half", "Z", RX5), (RX5, 64, RX3, "cabinCount", "I", RX5), (RX5, 263, RX3, "standing", "I", RX5), (RX5, 211, RX1, "vessel", "LFerryTerminal$Ship;", RX5), (RX5, 215, RX1, "beds", "I", RX5), (RX5, 212, RX1, "taken", "Z", RX5), (RX4, 56, RX2, "number", "I", RX5), (RX5, 165, RX2, "number", "I", RX5), (RX5, 76, RX2, "vessel", "LFerryTerminal$Ship;", RX5), (RX4, 49, RX2, "minute", "I", RX5), (RX5, 83, RX2, "minute", "I", RX5), (RX5, 106, RX2, "line", "I", RX5), (RX5, 80, RX2, "how", "I", RX5), (RX5, 166, RX2, "turns", "I", RX5), (RX5, 138, RX2, "recallIn", "I", RX5), (RX5, 155, RX2, "onRamp", "LFerryTerminal$Ticket;", RX5), (RX5, 200, RX2, "cabinIsNext", "Z", RX5), (RX5, 162, RX4, "number", "I", RX5), (RX5, 122, RX4, "trip", "LFerryTerminal$Sailing;", RX5), (RX3, 42, RX4, "length", "I", RX5), (RX5, 234, RX4, "length", "I", RX5), (RX3, 63, RX4, "height", "I", RX5), (RX5, 197, RX4, "wish", "I", RX5), (RX5, 239, RX4, "paid", "I", RX5), (RX5, 120, RX4, "how", "I", RX5), (RX5, 129, RX4, "minute", "I", RX5), (RX3, 81, RX4, "deck", "I", RX5), (RX3, 84, RX4, "lane", "I", RX5), (RX3, 47, RX4, "place", "I", RX5), (RX5, 278, RX4, "place", "I", RX5), (RX5, 208, RX4, "cabin", "I", RX5), (RX5, 242, RX4, "back", "I", RX5), (RX5, 245, RX4, "timesOn", "I", RX5), (RX5, 194, RX4, "boardedAt", "I", RX5), (RX3, 43, RX4, "behind", "LFerryTerminal$Ticket;", RX5), (RX5, 251, RX4, "behind", "LFerryTerminal$Ticket;", RX5)]
def nwM : List (String × Nat × MethodName × String) := [(RX5, 51, yX3_init, RX5), (RX5, 61, yX1_init, RX5), (RX5, 73, yX2_init, RX5), (RX5, 96, yX2_takesTickets, RX5), (RX5, 113, yX4_init, RX5), (RX5, 126, yX2_isPlannedOrOpen, RX5), (RX5, 218, yX3_clearPlace, RX5), (RX5, 187, yX4_boardsAheadOf, RX5), (RX5, 191, yX3_placeByDeckRule, RX5), (RX5, 271, yX4_tell, RX5), (RX5, 274, yX3_nearestBow, RX5), (RX5, 281, yX3_hasLane, RX5), (RX5, 285, yX3_freePlaces, RX5), (RX5, 289, yX3_longestGap, RX5), (RX5, 292, yX3_mayStand, RX5), (RX5, 304, yX0_init, RX5), (RX5, 324, yX0_number, RX5), (RX0, 22, yX4_tell, RX5), (RX5, 330, yX0_mayHaveCabin, RX5)]
/-- what the tables say of nest mates, and of arrays of tickets -/
def NW (U : State) : Prop := (∀ q ∈ nwF, va_Nw (.fieldLinkNest q.1 q.2.1 q.2.2.1 q.2.2.2.1 q.2.2.2.2.1 q.2.2.2.2.2) U) ∧ (∀ q ∈ nwM, va_Nw (.methodLinkNest q.1 q.2.1 q.2.2.1 q.2.2.2) U) ∧ va_AO RX4 U
theorem NW.warm {s U : State} (hW : s.WarmedH U.vm) (h : NW s) : NW U := ⟨fun q hq => va_Nw.warmF hW (h.1 q hq), fun q hq => va_Nw.warmM hW (h.2.1 q hq), h.2.2.moved hW.alike⟩
theorem NW.same {u U : State} (h : u.vm = U.vm) (hN : NW u) : NW U := ⟨fun q hq => va_Nw.same rfl h (hN.1 q hq), fun q hq => va_Nw.same rfl h (hN.2.1 q hq), hN.2.2.moved (h ▸ Vm.Alike.refl u.vm)⟩
abbrev Gs : Type := (Nat → Nat → Nat) × TN × TS × TP × TS
def Wl (D : va_G) (cA : Nat → ClassId) (z : Nat) (u : Gs) (U : State) : Prop := Wd D cA z u.1 u.2.1 u.2.2.1 u.2.2.2.1 u.2.2.2.2 U.heap ∧ va_K D vwCl (tysW cA) U ∧ NW U
theorem Wl.calling {D : va_G} {cA : Nat → ClassId} {z : Nat} {u : Gs} {U : State} {g : JFrame} {mk : MethodId} {a : Array Value} (h : Wl D cA z u U) : Wl D cA z u (U.calling g mk a) := ⟨h.1, va_K.moved (u := U) (U := U.calling g mk a) (Vm.Alike.refl U.vm) h.2.1, NW.same (u := U) (U := U.calling g mk a) rfl h.2.2⟩
theorem blindW {D : va_G} {cA : Nat → ClassId} {z : Nat} {u : Gs} {av : List Value} : FrameBlind (va_Pc av (Wl D cA z u)) := fun _ _ _ _ h => ⟨h.1, h.2.calling⟩
theorem nf_0 {U : State} (h : NW U) : va_Nw (.fieldLinkNest RX5 266 RX3 "number" "I" RX5) U := h.1 (RX5, 266, RX3, "number", "I", RX5) (List.mem_of_getElem? (i := 0) rfl)
theorem nf_1 {U : State} (h : NW U) : va_Nw (.fieldLinkNest RX5 254 RX3 "decks" "I" RX5) U := h.1 (RX5, 254, RX3, "decks", "I", RX5) (List.mem_of_getElem? (i := 1) rfl)
theorem nf_2 {U : State} (h : NW U) : va_Nw (.fieldLinkNest RX5 257 RX3 "lanes" "I" RX5) U := h.1 (RX5, 257, RX3, "lanes", "I", RX5) (List.mem_of_getElem? (i := 2) rfl)
theorem nf_3 {U : State} (h : NW U) : va_Nw (.fieldLinkNest RX5 103 RX3 "length" "I" RX5) U := h.1 (RX5, 103, RX3, "length", "I", RX5) (List.mem_of_getElem? (i := 3) rfl)
theorem nf_4 {U : State} (h : NW U) : va_Nw (.fieldLinkNest RX5 260 RX3 "half" "Z" RX5) U := h.1 (RX5, 260, RX3, "half", "Z", RX5) (List.mem_of_getElem? (i := 4) rfl)
theorem nf_5 {U : State} (h : NW U) : va_Nw (.fieldLinkNest RX5 64 RX3 "cabinCount" "I" RX5) U := h.1 (RX5, 64, RX3, "cabinCount", "I", RX5) (List.mem_of_getElem? (i := 5) rfl)
theorem nf_6 {U : State} (h : NW U) : va_Nw (.fieldLinkNest RX5 263 RX3 "standing" "I" RX5) U := h.1 (RX5, 263, RX3, "standing", "I", RX5) (List.mem_of_getElem? (i := 6) rfl)
theorem nf_7 {U : State} (h : NW U) : va_Nw (.fieldLinkNest RX5 211 RX1 "vessel" "LFerryTerminal$Ship;" RX5) U := h.1 (RX5, 211, RX1, "vessel", "LFerryTerminal$Ship;", RX5) (List.mem_of_getElem? (i := 7) rfl)
theorem nf_8 {U : State} (h : NW U) : va_Nw (.fieldLinkNest RX5 215 RX1 "beds" "I" RX5) U := h.1 (RX5, 215, RX1, "beds", "I", RX5) (List.mem_of_getElem? (i := 8) rfl)
theorem nf_9 {U : State} (h : NW U) : va_Nw (.fieldLinkNest RX5 212 RX1 "taken" "Z" RX5) U := h.1 (RX5, 212, RX1, "taken", "Z", RX5) (List.mem_of_getElem? (i := 9) rfl)
theorem nf_10 {U : State} (h : NW U) : va_Nw (.fieldLinkNest RX4 56 RX2 "number" "I" RX5) U := h.1 (RX4, 56, RX2, "number", "I", RX5) (List.mem_of_getElem? (i := 10) rfl)
theorem nf_11 {U : State} (h : NW U) : va_Nw (.fieldLinkNest RX5 165 RX2 "number" "I" RX5) U := h.1 (RX5, 165, RX2, "number", "I", RX5) (List.mem_of_getElem? (i := 11) rfl)
theorem nf_12 {U : State} (h : NW U) : va_Nw (.fieldLinkNest RX5 76 RX2 "vessel" "LFerryTerminal$Ship;" RX5) U := h.1 (RX5, 76, RX2, "vessel", "LFerryTerminal$Ship;", RX5) (List.mem_of_getElem? (i := 12) rfl)
theorem nf_13 {U : State} (h : NW U) : va_Nw (.fieldLinkNest RX4 49 RX2 "minute" "I" RX5) U := h.1 (RX4, 49, RX2, "minute", "I", RX5) (List.mem_of_getElem? (i := 13) rfl)
theorem nf_14 {U : State} (h : NW U) : va_Nw (.fieldLinkNest RX5 83 RX2 "minute" "I" RX5) U := h.1 (RX5, 83, RX2, "minute", "I", RX5) (List.mem_of_getElem? (i := 14) rfl)
theorem nf_15 {U : State} (h : NW U) : va_Nw (.fieldLinkNest RX5 106 RX2 "line" "I" RX5) U := h.1 (RX5, 106, RX2, "line", "I", RX5) (List.mem_of_getElem? (i := 15) rfl)
theorem nf_16 {U : State} (h : NW U) : va_Nw (.fieldLinkNest RX5 80 RX2 "how" "I" RX5) U := h.1 (RX5, 80, RX2, "how", "I", RX5) (List.mem_of_getElem? (i := 16) rfl)
theorem nf_17 {U : State} (h : NW U) : va_Nw (.fieldLinkNest RX5 166 RX2 "turns" "I" RX5) U := h.1 (RX5, 166, RX2, "turns", "I", RX5) (List.mem_of_getElem? (i := 17) rfl)
theorem nf_18 {U : State} (h : NW U) : va_Nw (.fieldLinkNest RX5 138 RX2 "recallIn" "I" RX5) U := h.1 (RX5, 138, RX2, "recallIn", "I", RX5) (List.mem_of_getElem? (i := 18) rfl)
theorem nf_19 {U : State} (h : NW U) : va_Nw (.fieldLinkNest RX5 155 RX2 "onRamp" "LFerryTerminal$Ticket;" RX5) U := h.1 (RX5, 155, RX2, "onRamp", "LFerryTerminal$Ticket;", RX5) (List.mem_of_getElem? (i := 19) rfl)
theorem nf_20 {U : State} (h : NW U) : va_Nw (.fieldLinkNest RX5 200 RX2 "cabinIsNext" "Z" RX5) U := h.1 (RX5, 200, RX2, "cabinIsNext", "Z", RX5) (List.mem_of_getElem? (i := 20) rfl)
theorem nf_21 {U : State} (h : NW U) : va_Nw (.fieldLinkNest RX5 162 RX4 "number" "I" RX5) U := h.1 (RX5, 162, RX4, "number", "I", RX5) (List.mem_of_getElem? (i := 21) rfl)
theorem nf_22 {U : State} (h : NW U) : va_Nw (.fieldLinkNest RX5 122 RX4 "trip" "LFerryTerminal$Sailing;" RX5) U := h.1 (RX5, 122, RX4, "trip", "LFerryTerminal$Sailing;", RX5) (List.mem_of_getElem? (i := 22) rfl)
theorem nf_23 {U : State} (h : NW U) : va_Nw (.fieldLinkNest RX3 42 RX4 "length" "I" RX5) U := h.1 (RX3, 42, RX4, "length", "I", RX5) (List.mem_of_getElem? (i := 23) rfl)
theorem nf_24 {U : State} (h : NW U) : va_Nw (.fieldLinkNest RX5 234 RX4 "length" "I" RX5) U := h.1 (RX5, 234, RX4, "length", "I", RX5) (List.mem_of_getElem? (i := 24) rfl)
theorem nf_25 {U : State} (h : NW U) : va_Nw (.fieldLinkNest RX3 63 RX4 "height" "I" RX5) U := h.1 (RX3, 63, RX4, "height", "I", RX5) (List.mem_of_getElem? (i := 25) rfl)
theorem nf_26 {U : State} (h : NW U) : va_Nw (.fieldLinkNest RX5 197 RX4 "wish" "I" RX5) U := h.1 (RX5, 197, RX4, "wish", "I", RX5) (List.mem_of_getElem? (i := 26) rfl)
theorem nf_27 {U : State} (h : NW U) : va_Nw (.fieldLinkNest RX5 239 RX4 "paid" "I" RX5) U := h.1 (RX5, 239, RX4, "paid", "I", RX5) (List.mem_of_getElem? (i := 27) rfl)
theorem nf_28 {U : State} (h : NW U) : va_Nw (.fieldLinkNest RX5 120 RX4 "how" "I" RX5) U := h.1 (RX5, 120, RX4, "how", "I", RX5) (List.mem_of_getElem? (i := 28) rfl)
theorem nf_29 {U : State} (h : NW U) : va_Nw (.fieldLinkNest RX5 129 RX4 "minute" "I" RX5) U := h.1 (RX5, 129, RX4, "minute", "I", RX5) (List.mem_of_getElem? (i := 29) rfl)
theorem nf_30 {U : State} (h : NW U) : va_Nw (.fieldLinkNest RX3 81 RX4 "deck" "I" RX5) U := h.1 (RX3, 81, RX4, "deck", "I", RX5) (List.mem_of_getElem? (i := 30) rfl)
theorem nf_31 {U : State} (h : NW U) : va_Nw (.fieldLinkNest RX3 84 RX4 "lane" "I" RX5) U := h.1 (RX3, 84, RX4, "lane", "I", RX5) (List.mem_of_getElem? (i := 31) rfl)
theorem nf_32 {U : State} (h : NW U) : va_Nw (.fieldLinkNest RX3 47 RX4 "place" "I" RX5) U := h.1 (RX3, 47, RX4, "place", "I", RX5) (List.mem_of_getElem? (i := 32) rfl)
theorem nf_33 {U : State} (h : NW U) : va_Nw (.fieldLinkNest RX5 278 RX4 "place" "I" RX5) U := h.1 (RX5, 278, RX4, "place", "I", RX5) (List.mem_of_getElem? (i := 33) rfl)
theorem nf_34 {U : State} (h : NW U) : va_Nw (.fieldLinkNest RX5 208 RX4 "cabin" "I" RX5) U := h.1 (RX5, 208, RX4, "cabin", "I", RX5) (List.mem_of_getElem? (i := 34) rfl)
theorem nf_35 {U : State} (h : NW U) : va_Nw (.fieldLinkNest RX5 242 RX4 "back" "I" RX5) U := h.1 (RX5, 242, RX4, "back", "I", RX5) (List.mem_of_getElem? (i := 35) rfl)
theorem nf_36 {U : State} (h : NW U) : va_Nw (.fieldLinkNest RX5 245 RX4 "timesOn" "I" RX5) U := h.1 (RX5, 245, RX4, "timesOn", "I", RX5) (List.mem_of_getElem? (i := 36) rfl)
theorem nf_37 {U : State} (h : NW U) : va_Nw (.fieldLinkNest RX5 194 RX4 "boardedAt" "I" RX5) U := h.1 (RX5, 194, RX4, "boardedAt", "I", RX5) (List.mem_of_getElem? (i := 37) rfl)
theorem nf_38 {U : State} (h : NW U) : va_Nw (.fieldLinkNest RX3 43 RX4 "behind" "LFerryTerminal$Ticket;" RX5) U := h.1 (RX3, 43, RX4, "behind", "LFerryTerminal$Ticket;", RX5) (List.mem_of_getElem? (i := 38) rfl)
theorem nf_39 {U : State} (h : NW U) : va_Nw (.fieldLinkNest RX5 251 RX4 "behind" "LFerryTerminal$Ticket;" RX5) U := h.1 (RX5, 251, RX4, "behind", "LFerryTerminal$Ticket;", RX5) (List.mem_of_getElem? (i := 39) rfl)
theorem nm_0 {U : State} (h : NW U) : va_Nw (.methodLinkNest RX5 51 yX3_init RX5) U := h.2.1 (RX5, 51, yX3_init, RX5) (List.mem_of_getElem? (i := 0) rfl)
theorem nm_1 {U : State} (h : NW U) : va_Nw (.methodLinkNest RX5 61 yX1_init RX5) U := h.2.1 (RX5, 61, yX1_init, RX5) (List.mem_of_getElem? (i := 1) rfl)
theorem nm_2 {U : State} (h : NW U) : va_Nw (.methodLinkNest RX5 73 yX2_init RX5) U := h.2.1 (RX5, 73, yX2_init, RX5) (List.mem_of_getElem? (i := 2) rfl)
theorem nm_3 {U : State} (h : NW U) : va_Nw (.methodLinkNest RX5 96 yX2_takesTickets RX5) U := h.2.1 (RX5, 96, yX2_takesTickets, RX5) (List.mem_of_getElem? (i := 3) rfl)
theorem nm_4 {U : State} (h : NW U) : va_Nw (.methodLinkNest RX5 113 yX4_init RX5) U := h.2.1 (RX5, 113, yX4_init, RX5) (List.mem_of_getElem? (i := 4) rfl)
theorem nm_5 {U : State} (h : NW U) : va_Nw (.methodLinkNest RX5 126 yX2_isPlannedOrOpen RX5) U := h.2.1 (RX5, 126, yX2_isPlannedOrOpen, RX5) (List.mem_of_getElem? (i := 5) rfl)
theorem nm_6 {U : State} (h : NW U) : va_Nw (.methodLinkNest RX5 218 yX3_clearPlace RX5) U := h.2.1 (RX5, 218, yX3_clearPlace, RX5) (List.mem_of_getElem? (i := 6) rfl)
theorem nm_7 {U : State} (h : NW U) : va_Nw (.methodLinkNest RX5 187 yX4_boardsAheadOf RX5) U := h.2.1 (RX5, 187, yX4_boardsAheadOf, RX5) (List.mem_of_getElem? (i := 7) rfl)
theorem nm_8 {U : State} (h : NW U) : va_Nw (.methodLinkNest RX5 191 yX3_placeByDeckRule RX5) U := h.2.1 (RX5, 191, yX3_placeByDeckRule, RX5) (List.mem_of_getElem? (i := 8) rfl)
theorem nm_9 {U : State} (h : NW U) : va_Nw (.methodLinkNest RX5 271 yX4_tell RX5) U := h.2.1 (RX5, 271, yX4_tell, RX5) (List.mem_of_getElem? (i := 9) rfl)
theorem nm_10 {U : State} (h : NW U) : va_Nw (.methodLinkNest RX5 274 yX3_nearestBow RX5) U := h.2.1 (RX5, 274, yX3_nearestBow, RX5) (List.mem_of_getElem? (i := 10) rfl)
theorem nm_11 {U : State} (h : NW U) : va_Nw (.methodLinkNest RX5 281 yX3_hasLane RX5) U := h.2.1 (RX5, 281, yX3_hasLane, RX5) (List.mem_of_getElem? (i := 11) rfl)
theorem nm_12 {U : State} (h : NW U) : va_Nw (.methodLinkNest RX5 285 yX3_freePlaces RX5) U := h.2.1 (RX5, 285, yX3_freePlaces, RX5) (List.mem_of_getElem? (i := 12) rfl)
theorem nm_13 {U : State} (h : NW U) : va_Nw (.methodLinkNest RX5 289 yX3_longestGap RX5) U := h.2.1 (RX5, 289, yX3_longestGap, RX5) (List.mem_of_getElem? (i := 13) rfl)
theorem nm_14 {U : State} (h : NW U) : va_Nw (.methodLinkNest RX5 292 yX3_mayStand RX5) U := h.2.1 (RX5, 292, yX3_mayStand, RX5) (List.mem_of_getElem? (i := 14) rfl)
theorem nm_15 {U : State} (h : NW U) : va_Nw (.methodLinkNest RX5 304 yX0_init RX5) U := h.2.1 (RX5, 304, yX0_init, RX5) (List.mem_of_getElem? (i := 15) rfl)
theorem nm_16 {U : State} (h : NW U) : va_Nw (.methodLinkNest RX5 324 yX0_number RX5) U := h.2.1 (RX5, 324, yX0_number, RX5) (List.mem_of_getElem? (i := 16) rfl)
theorem nm_17 {U : State} (h : NW U) : va_Nw (.methodLinkNest RX0 22 yX4_tell RX5) U := h.2.1 (RX0, 22, yX4_tell, RX5) (List.mem_of_getElem? (i := 17) rfl)
theorem nm_18 {U : State} (h : NW U) : va_Nw (.methodLinkNest RX5 330 yX0_mayHaveCabin RX5) U := h.2.1 (RX5, 330, yX0_mayHaveCabin, RX5) (List.mem_of_getElem? (i := 18) rfl)
