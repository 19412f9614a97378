/-! SPECS: cells that hold nothing lasting (exc), agreement on all others (Ag), the state in the reference's words: R the port's row, Y the yard's row (numbers), and how class and reference hold them -/
def exK : List Nat := [0, 3, 4, 5, 6, 7, 8, 11, 13, 26, 27, 30, 32, 33, 34, 35]
def memN (l : List Nat) (k : Nat) : Bool := match l with
  | [] => false
  | a :: t => Nat.beq k a || memN t k
def exc (a k : Nat) : Bool := (Nat.beq a 0 && Nat.beq k 7) || ((Nat.beq a 263 && memN exK k) || ((Nat.ble 73 a && Nat.ble a 80) || (Nat.beq a 265 || (Nat.beq a 267 || (Nat.ble 272 a && Nat.ble a 277)))))
def Ag (g g' : Gi) : Prop := ∀ a k, exc a k = false → g' a k = g a k
theorem Ag.rf {g : Gi} : Ag g g := fun _ _ _ => rfl
theorem Ag.tr {g g' g'' : Gi} (h : Ag g g') (h' : Ag g' g'') : Ag g g'' := fun a k e => (h' a k e).trans (h a k e)
theorem Ag.u {g g' : Gi} {a k : Nat} {v : Int32} (h : Ag g g') (e : exc a k = true) : Ag g (uI g' a k v) := by
  intro a' k' e'
  by_cases ha : a' = a
  · subst ha
    by_cases hk : k' = k
    · subst hk; rw [e] at e'; cases e'
    · rw [uI_n hk]; exact h _ _ e'
  · rw [uI_o ha]; exact h _ _ e'
theorem exc_mid {a k : Nat} (h0 : a ≠ 0) (h1 : a < 73) : exc a k = false := by
  unfold exc
  rw [beq_ne h0, beq_ne (show a ≠ 263 by omega), beq_ne (show a ≠ 265 by omega), beq_ne (show a ≠ 267 by omega)]
  have e1 : Nat.ble 73 a = false := by cases hb : Nat.ble 73 a with
    | false => rfl
    | true => exact absurd (Nat.le_of_ble_eq_true hb) (by omega)
  have e2 : Nat.ble 272 a = false := by cases hb : Nat.ble 272 a with
    | false => rfl
    | true => exact absurd (Nat.le_of_ble_eq_true hb) (by omega)
  rw [e1, e2]
  rfl
theorem exc_mid2 {a k : Nat} (h0 : 80 < a) (h1 : a < 263) : exc a k = false := by
  unfold exc
  rw [beq_ne (show a ≠ 0 by omega), beq_ne (show a ≠ 263 by omega), beq_ne (show a ≠ 265 by omega), beq_ne (show a ≠ 267 by omega)]
  have e1 : Nat.ble a 80 = false := by cases hb : Nat.ble a 80 with
    | false => rfl
    | true => exact absurd (Nat.le_of_ble_eq_true hb) (by omega)
  have e2 : Nat.ble 272 a = false := by cases hb : Nat.ble 272 a with
    | false => rfl
    | true => exact absurd (Nat.le_of_ble_eq_true hb) (by omega)
  rw [e1, e2]
  simp
/-- how many of the first n crates are the ship's -/
def cntS (R : Nat → Nat) (s : Nat) : Nat → Nat
  | 0 => 0
  | n + 1 => cntS R s n + (if R (22 + 5 * n) = s then 1 else 0)
/-- opened: the reference has 1 night, 2 day; the class the other way round -/
def opx (n : Nat) : Nat := match n with
  | 0 => 0
  | 1 => 2
  | _ => 1
def Px (p : Nat) (R : Nat → Nat) (g : Gi) : Prop :=
  (g p 0 = nI (R 0) ∧ g p 1 = nI (R 1) ∧ g p 2 = nI (R 2) ∧ g p 3 = nI (R 3) ∧ g p 5 = nI (R 4) ∧ g p 7 = nI (R 5) ∧ g p 9 = nI (R 6) ∧ g p 11 = nI (R 7)) ∧
  (∀ s, s < R 4 → g (p + 10 + s) 0 = nI (R (9 + 4 * s)) ∧ g (p + 10 + s) 1 = nI (R (10 + 4 * s)) ∧ g (p + 10 + s) 2 = nI (R (11 + 4 * s)) ∧ g (p + 10 + s) 3 = nI (R (12 + 4 * s)) ∧ g (p + 10 + s) 4 = nI (cntS R s (R 5))) ∧
  (∀ c, c < R 5 → g (p + 13 + c) 0 = nI (R (21 + 5 * c)) ∧ g (p + 13 + c) 1 = nI (R (22 + 5 * c)) ∧ g (p + 13 + c) 3 = nI (R (23 + 5 * c)) ∧ g (p + 13 + c) 4 = nI (R (24 + 5 * c)) ∧ g (p + 13 + c) 2 = nI (R (25 + 5 * c)) ∧ g (p + 13 + c) 5 = nI (opx (R (126 + c)))) ∧
  (∀ t, t < R 6 → g (p + 3) t = nI (R (96 + t))) ∧ (∀ a b, a < 5 → b < 5 → g (p + 5 + a) b = nI (R (101 + 5 * a + b)))
/-- the port's row: bounds (b: a port is told) -/
def RO (b : Nat) (R : Nat → Nat) : Prop :=
  (b = 0 → ∀ k, R k = 0) ∧ (b = 1 → 1 ≤ R 1 ∧ 1 ≤ R 4 ∧ 1 ≤ R 6) ∧ (R 0 ≤ 999 ∧ R 1 ≤ 99 ∧ R 2 ≤ 30 ∧ R 3 ≤ 30 ∧ R 4 ≤ 3 ∧ R 5 ≤ 15 ∧ R 6 ≤ 5 ∧ R 7 ≤ 8) ∧
  (∀ s, s < R 4 → R (9 + 4 * s) ≤ 60 ∧ R (10 + 4 * s) ≤ 100 ∧ 1 ≤ R (11 + 4 * s) ∧ R (11 + 4 * s) ≤ 30 ∧ R (12 + 4 * s) ≤ 20) ∧
  (∀ c, c < R 5 → R (21 + 5 * c) ≤ 3 ∧ R (22 + 5 * c) < R 4 ∧ 1 ≤ R (23 + 5 * c) ∧ R (23 + 5 * c) ≤ 99 ∧ 1 ≤ R (24 + 5 * c) ∧ R (24 + 5 * c) ≤ 30 ∧ R (25 + 5 * c) ≤ 2) ∧
  (∀ c c', c < R 5 → c' < R 5 → R (23 + 5 * c) = R (23 + 5 * c') → c = c') ∧ (∀ s, cntS R s (R 5) ≤ 5) ∧
  (∀ t, t < R 6 → 1 ≤ R (96 + t) ∧ R (96 + t) ≤ 99) ∧
  (∀ a b, a < 5 → b < 5 → R (101 + 5 * a + b) ≤ 9 ∧ R (101 + 5 * a + b) = R (101 + 5 * b + a) ∧ (R 6 ≤ a ∨ a = b → R (101 + 5 * a + b) = 0)) ∧
  (∀ c, c < 15 → R (126 + c) ≤ 2 ∧ (R 5 ≤ c → R (126 + c) = 0))
/-- a yard of the class holds the row Y -/
def Yx (y : Nat) (R Y : Nat → Nat) (g : Gi) : Prop :=
  (g y 3 = nI (Y 144) ∧ g y 9 = nI (Y 145) ∧ g y 10 = nI (Y 146)) ∧
  (∀ k, k < 9 → g (y + 2) k = nI (Y (120 + k)) ∧ ∀ i, i < Y (120 + k) → g (y + 1) (5 * k + i) = nI (Y (75 + 5 * k + i) - 1)) ∧
  (∀ i, i < Y 144 → g (y + 3) i = nI (Y (129 + i))) ∧
  (∀ c, c < 15 → g (y + 6) c = nI (opx (Y (60 + c)))) ∧
  (∀ c, c < R 5 → g (y + 4) c = nI (Y c) ∧ g (y + 5) c = nI (Y (15 + c)) ∧ (Y c = 3 → g (y + 7) c = nI (Y 145 - Y (45 + c))) ∧ (Y c = 4 → ∃ d, d < Y 145 ∧ Y (147 + d) = c + 1 ∧ g (y + 8) c = nI d) ∧ (Y c ≠ 4 → g (y + 8) c = -(nI 2)))
/-- the yard's row: what always holds of it (n: calls so far) -/
def YO (n : Nat) (R Y : Nat → Nat) : Prop :=
  (∀ k, k < 9 → Y (120 + k) ≤ 5 ∧ (3 * R 4 ≤ k → Y (120 + k) = 0) ∧ ∀ i, i < Y (120 + k) → 1 ≤ Y (75 + 5 * k + i) ∧ Y (75 + 5 * k + i) ≤ R 5 ∧ R (22 + 5 * (Y (75 + 5 * k + i) - 1)) = k / 3 ∧ Y (Y (75 + 5 * k + i) - 1) = k % 3) ∧
  (∀ k i i', k < 9 → i < Y (120 + k) → i' < Y (120 + k) → Y (75 + 5 * k + i) = Y (75 + 5 * k + i') → i = i') ∧
  (∀ k i, k < 9 → Y (120 + k) ≤ i → i < 5 → Y (75 + 5 * k + i) = 0) ∧
  (∀ c, c < R 5 → Y c < 3 → ∃ i, i < Y (120 + (3 * R (22 + 5 * c) + Y c)) ∧ Y (75 + 5 * (3 * R (22 + 5 * c) + Y c) + i) = c + 1) ∧
  (Y 144 ≤ 15 ∧ ∀ i, i < Y 144 → Y (129 + i) < R 5 ∧ Y (Y (129 + i)) = 3) ∧ (∀ i i', i < Y 144 → i' < Y 144 → Y (129 + i) = Y (129 + i') → i = i') ∧ (∀ c, c < R 5 → Y c = 3 → ∃ i, i < Y 144 ∧ Y (129 + i) = c) ∧
  (∀ c, c < R 5 → Y c ≤ 5 ∧ Y (15 + c) ≤ n ∧ (Y (30 + c) = if R (21 + 5 * c) = 2 ∧ 2 ≤ Y (15 + c) then 1 else 0) ∧ Y (45 + c) ≤ Y 145) ∧
  (∀ c, c < 15 → Y (60 + c) ≤ 2 ∧ (R 5 ≤ c → Y (60 + c) = 0)) ∧
  (Y 145 ≤ 99 ∧ ∀ d, d < 99 → Y (147 + d) ≤ R 5 ∧ (1 ≤ Y (147 + d) → d < Y 145 ∧ Y (Y (147 + d) - 1) = 4)) ∧ (∀ d d', d < 99 → d' < 99 → 1 ≤ Y (147 + d) → Y (147 + d) = Y (147 + d') → d = d') ∧
  (Y 146 ≤ 2 * n ∧ ∀ c, c < R 5 → Y c < 3 → Y (45 + c) = 0)
/-- port and yard NOW, on both sides -/
def Vw (n p b : Nat) (R Y : Nat → Nat) (r : Rr) (g : Gi) : Prop :=
  r 0 2 = some p ∧ (p = 2 ∨ p = 30) ∧ Px p R g ∧ Yx 62 R Y g ∧ (∀ k, k < 348 → g 266 k = nI (R k)) ∧ (∀ k, k < 246 → g 268 k = nI (Y k)) ∧ (g 0 5 = nI b ∧ g 263 14 = nI b ∧ (b = 0 ∨ b = 1)) ∧ RO b R ∧ YO n R Y ∧ n ≤ 512
theorem Px.ag {p : Nat} {R : Nat → Nat} {g g' : Gi} (hp : p = 2 ∨ p = 30) (hb : R 4 ≤ 3 ∧ R 5 ≤ 15) (h : Px p R g) (ha : Ag g g') : Px p R g' := by
  have e : ∀ a k, p ≤ a → a < p + 28 → g' a k = g a k := fun a k h1 h2 => ha a k (exc_mid (by omega) (by omega))
  obtain ⟨h1, h2, h3, h4, h5⟩ := h
  refine ⟨?_, fun s hs => ?_, fun c hc => ?_, fun t ht => ?_, fun a b x y => ?_⟩
  · simpa only [e p _ (Nat.le_refl _) (by omega)] using h1
  · simpa only [e (p + 10 + s) _ (by omega) (by omega)] using h2 s hs
  · simpa only [e (p + 13 + c) _ (by omega) (by omega)] using h3 c hc
  · rw [e (p + 3) t (by omega) (by omega)]; exact h4 t ht
  · rw [e (p + 5 + a) b (by omega) (by omega)]; exact h5 a b x y
theorem Yx.ag {y : Nat} {R Y : Nat → Nat} {g g' : Gi} (hy : ∀ a k, y ≤ a → a < y + 9 → exc a k = false) (h : Yx y R Y g) (ha : Ag g g') : Yx y R Y g' := by
  have e : ∀ a k, y ≤ a → a < y + 9 → g' a k = g a k := fun a k h1 h2 => ha a k (hy a k h1 h2)
  obtain ⟨h1, h2, h3, h4, h5⟩ := h
  refine ⟨?_, fun k hk => ⟨?_, fun i hi => ?_⟩, fun i hi => ?_, fun c hc => ?_, fun c hc => ?_⟩
  · simpa only [e y _ (Nat.le_refl _) (by omega)] using h1
  · rw [e (y + 2) k (by omega) (by omega)]; exact (h2 k hk).1
  · rw [e (y + 1) _ (by omega) (by omega)]; exact (h2 k hk).2 i hi
  · rw [e (y + 3) _ (by omega) (by omega)]; exact h3 i hi
  · rw [e (y + 6) _ (by omega) (by omega)]; exact h4 c hc
  · simp only [e (y + 4) c (by omega) (by omega), e (y + 5) c (by omega) (by omega), e (y + 7) c (by omega) (by omega), e (y + 8) c (by omega) (by omega)]
    exact h5 c hc
theorem Vw.ag {n p b : Nat} {R Y : Nat → Nat} {r : Rr} {g g' : Gi} (h : Vw n p b R Y r g) (ha : Ag g g') : Vw n p b R Y r g' := by
  obtain ⟨h1, h2, h3, h4, h5, h6, ⟨h7, h8, h9⟩, h10, h11⟩ := h
  refine ⟨h1, h2, h3.ag h2 ⟨h10.2.2.1.2.2.2.2.1, h10.2.2.1.2.2.2.2.2.1⟩ ha, h4.ag (fun a k x y => exc_mid (by omega) (by omega)) ha, fun k hk => ?_, fun k hk => ?_, ⟨?_, ?_, h9⟩, h10, h11⟩
  · rw [ha 266 k rfl]; exact h5 k hk
  · rw [ha 268 k rfl]; exact h6 k hk
  · rw [ha 0 5 rfl]; exact h7
  · rw [ha 263 14 rfl]; exact h8
