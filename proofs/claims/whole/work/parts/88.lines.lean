/-! THE TEXT: the lines, as what they do to the row; what always holds of the row -/
def bz {α β : Type} (x : Rz α) (f : α → Rz β) : Rz β := match x with
  | .inl y => .inl y
  | .inr a => f a
theorem bz_r {α β : Type} {x : Rz α} {f : α → Rz β} {b : β} (h : bz x f = .inr b) : ∃ a, x = .inr a ∧ f a = .inr b := by
  cases x with
  | inl y => cases h
  | inr a => exact ⟨a, rfl, h⟩
abbrev LR : Type := Rz (Nat × (Nat → Nat))
noncomputable def portL (n : Nat) (τ : Nat → Nat) (e : Nat) (F : Nat → Nat) : LR := bz (waw n τ e 6 0 999) fun p0 => bz (waw n τ p0.2 7 1 99) fun p1 => bz (waw n τ p1.2 8 0 30) fun p2 => bz (waw n τ p2.2 9 0 30) fun p3 => .inr (p3.2, upN (upN (upN (upN (upN F 0 p0.1) 1 p1.1) 2 p2.1) 3 p3.1) 8 1)
noncomputable def shipL (n : Nat) (τ : Nat → Nat) (e : Nat) (F : Nat → Nat) : LR := bz (nwN n τ e F) fun _ => bz (waw n τ (tZ n τ e) 10 0 60) fun p0 => bz (waw n τ p0.2 11 0 100) fun p1 => bz (waw n τ p1.2 12 1 30) fun p2 => bz (waw n τ p2.2 13 0 20) fun p3 => .inr (p3.2, upN (upN (upN (upN (upN (putN n τ e F (F 4)) (9 + 4 * F 4) p0.1) (10 + 4 * F 4) p1.1) (11 + 4 * F 4) p2.1) (12 + 4 * F 4) p3.1) 4 (F 4 + 1))
noncomputable def kdL (n : Nat) (τ : Nat → Nat) (e : Nat) : Rz Nat := @ite _ (isW n τ e 14) (Classical.propDecidable _) (.inr 0) (@ite _ (isW n τ e 15) (Classical.propDecidable _) (.inr 1) (@ite _ (isW n τ e 16) (Classical.propDecidable _) (.inr 2) (@ite _ (isW n τ e 17) (Classical.propDecidable _) (.inr 3) (.inl (1, tA n τ e)))))
noncomputable def onL (n : Nat) (τ : Nat → Nat) (e : Nat) : Rz Nat := @ite _ (isW n τ e 18) (Classical.propDecidable _) (.inr (tZ n τ e)) (.inl (1, tA n τ e))
noncomputable def crateL (n : Nat) (τ : Nat → Nat) (e : Nat) (F : Nat → Nat) : LR := bz (nwN n τ e F) fun _ => bz (kdL n τ (tZ n τ e)) fun kd => bz (onL n τ (tZ n τ (tZ n τ e))) fun e3 => bz (tnm n τ e3 (putN n τ e F (3 + F 5)) 0 2) fun sh => if 5 ≤ cntS F sh (F 5) then .inl (5, tA n τ e3) else bz (waw n τ (tZ n τ e3) 19 0 2) fun p0 => bz (waw n τ p0.2 20 1 99) fun p1 => @ite _ (∃ c, c < F 5 ∧ F (23 + 5 * c) = p1.1) (Classical.propDecidable _) (.inl (3, tA n τ (tZ n τ p0.2))) (bz (waw n τ p1.2 21 1 30) fun p2 =>
  .inr (p2.2, upN (upN (upN (upN (upN (upN (putN n τ e F (3 + F 5)) (21 + 5 * F 5) kd) (22 + 5 * F 5) sh) (23 + 5 * F 5) p1.1) (24 + 5 * F 5) p2.1) (25 + 5 * F 5) p0.1) 5 (F 5 + 1)))
noncomputable def townL (n : Nat) (τ : Nat → Nat) (e : Nat) (F : Nat → Nat) : LR := bz (nwN n τ e F) fun _ => bz (waw n τ (tZ n τ e) 22 1 99) fun p0 => .inr (p0.2, upN (upN (putN n τ e F (18 + F 6)) (96 + F 6) p0.1) 6 (F 6 + 1))
noncomputable def roadL (n : Nat) (τ : Nat → Nat) (e : Nat) (F : Nat → Nat) : LR := bz (tnm n τ e F 18 22) fun s1 => bz (tnm n τ (tZ n τ e) F 18 22) fun s2 => if s1 = s2 ∨ 0 < F (101 + 5 * (s1 - 18) + (s2 - 18)) then .inl (3, tA n τ (tZ n τ e)) else bz (waw n τ (tZ n τ (tZ n τ e)) 23 1 9) fun p0 => .inr (p0.2, upN (upN (upN F (101 + 5 * (s1 - 18) + (s2 - 18)) p0.1) (101 + 5 * (s2 - 18) + (s1 - 18)) p0.1) 7 (F 7 + 1))
noncomputable def openL (n : Nat) (τ : Nat → Nat) (e : Nat) (F : Nat → Nat) : LR := bz (tnm n τ e F 3 17) fun s => if 0 < F (126 + (s - 3)) then .inl (3, tA n τ e) else @ite _ (isW n τ (tZ n τ e) 24) (Classical.propDecidable _) (.inr (tZ n τ (tZ n τ e), upN F (126 + (s - 3)) 1)) (@ite _ (isW n τ (tZ n τ e) 10) (Classical.propDecidable _) (.inr (tZ n τ (tZ n τ e), upN F (126 + (s - 3)) 2)) (.inl (1, tA n τ (tZ n τ e))))
noncomputable def lineL (n : Nat) (τ : Nat → Nat) (e b : Nat) (F : Nat → Nat) : LR := @ite _ (isKW n τ e) (Classical.propDecidable _) (@ite _ (isW n τ e 0) (Classical.propDecidable _) (if b = 0 then portL n τ (tZ n τ e) F else .inl (3, tA n τ e))
  (if b = 0 then .inl (6, tA n τ e) else @ite _ (isW n τ e 1) (Classical.propDecidable _) (if F 4 < 3 then shipL n τ (tZ n τ e) F else .inl (5, tA n τ e)) (@ite _ (isW n τ e 2) (Classical.propDecidable _) (crateL n τ (tZ n τ e) F)
    (@ite _ (isW n τ e 3) (Classical.propDecidable _) (if F 6 < 5 then townL n τ (tZ n τ e) F else .inl (5, tA n τ e)) (@ite _ (isW n τ e 4) (Classical.propDecidable _) (if F 7 < 8 then roadL n τ (tZ n τ e) F else .inl (5, tA n τ e)) (openL n τ (tZ n τ e) F)))))) (.inl (1, tA n τ e))
/-- the row's bounds -/
def RB (R : Nat → Nat) : Prop := (R 0 ≤ 999 ∧ R 1 ≤ 99 ∧ R 2 ≤ 30 ∧ R 3 ≤ 30 ∧ R 4 ≤ 3 ∧ R 5 ≤ 15 ∧ R 6 ≤ 5 ∧ R 7 ≤ 8) ∧
  (∀ s, s < R 4 → R (9 + 4 * s) ≤ 60 ∧ R (10 + 4 * s) ≤ 100 ∧ 1 ≤ R (11 + 4 * s) ∧ R (11 + 4 * s) ≤ 30 ∧ R (12 + 4 * s) ≤ 20) ∧
  (∀ c, c < R 5 → R (21 + 5 * c) ≤ 3 ∧ R (22 + 5 * c) < R 4 ∧ 1 ≤ R (23 + 5 * c) ∧ R (23 + 5 * c) ≤ 99 ∧ 1 ≤ R (24 + 5 * c) ∧ R (24 + 5 * c) ≤ 30 ∧ R (25 + 5 * c) ≤ 2) ∧
  (∀ c c', c < R 5 → c' < R 5 → R (23 + 5 * c) = R (23 + 5 * c') → c = c') ∧ (∀ s, cntS R s (R 5) ≤ 5) ∧
  (∀ t, t < R 6 → 1 ≤ R (96 + t) ∧ R (96 + t) ≤ 99) ∧
  (∀ a b, a < 5 → b < 5 → R (101 + 5 * a + b) ≤ 9 ∧ R (101 + 5 * a + b) = R (101 + 5 * b + a) ∧ (R 6 ≤ a ∨ a = b → R (101 + 5 * a + b) = 0)) ∧
  (∀ c, c < 15 → R (126 + c) ≤ 2 ∧ (R 5 ≤ c → R (126 + c) = 0))
def US (F : Nat → Nat) : Prop := ∀ s, s < 23 → (0 < F (141 + s) ↔ (s < 3 ∧ s < F 4) ∨ (3 ≤ s ∧ s < 18 ∧ s - 3 < F 5) ∨ (18 ≤ s ∧ s - 18 < F 6))
def LB (F : Nat → Nat) : Prop := ∀ s, s < 23 → F (141 + s) ≤ 8 ∧ ∀ i, i < 8 → F (164 + 8 * s + i) < 256
def FI (b : Nat) (F : Nat → Nat) : Prop := (b = 0 → ∀ k, F k = 0) ∧ (b = 1 → 1 ≤ F 1 ∧ F 8 = 1) ∧ (b = 0 ∨ b = 1) ∧ RB F ∧ FNm F ∧ US F ∧ LB F
section
variable {n e b lo hi k v e' s s0 : Nat} {τ F F' : Nat → Nat}
theorem waw_ok (he : e ≤ n) (h : waw n τ e k lo hi = .inr (v, e')) : lo ≤ v ∧ v ≤ hi ∧ e' ≤ n ∧ v ≤ 999 := by
  unfold waw at h
  have hz := tZ_b (τ := τ) he
  by_cases c : isW n τ e k
  · rw [if_pos c] at h
    split at h
    · rename_i c1
      split at h
      · rename_i c2
        simp only [Sum.inr.injEq, Prod.mk.injEq] at h
        obtain ⟨rfl, rfl⟩ := h
        exact ⟨c2.1, c2.2, (tZ_b hz.2).2, tV_b hz.2 c1⟩
      · cases h
    · cases h
  · rw [if_neg c] at h; cases h
theorem tnm_ok (h : tnm n τ e F lo hi = .inr s) : tK n τ e = 1 ∧ lo ≤ s ∧ s ≤ hi ∧ mtc n τ e F s := by
  unfold tnm at h
  by_cases c : tK n τ e = 1 ∧ ¬ isKW n τ e
  · rw [if_pos c] at h
    by_cases c2 : ∃ s, lo ≤ s ∧ s ≤ hi ∧ mtc n τ e F s
    · rw [if_pos c2] at h
      have := @Classical.epsilon_spec Nat (fun s => lo ≤ s ∧ s ≤ hi ∧ mtc n τ e F s) c2
      simp only [Sum.inr.injEq] at h
      rw [h] at this
      exact ⟨c.1, this⟩
    · rw [if_neg c2] at h; cases h
  · rw [if_neg c] at h; cases h
theorem FNm.eq (h : FNm F) (e1 : ∀ k, 141 ≤ k → F' k = F k) : FNm F' := by
  refine ⟨fun s hs => ?_, fun s s' h1 h2 h3 h4 h5 => ?_⟩
  · rw [e1 _ (by omega)]
    exact ⟨(h.1 s hs).1, fun i hi => by rw [e1 _ (by omega)]; exact (h.1 s hs).2 i hi⟩
  · rw [e1 _ (by omega)] at h3 h4 h5
    rw [e1 _ (by omega)] at h4
    exact h.2 s s' h1 h2 h3 h4 (fun i hi => by have := h5 i hi; rw [e1 _ (by omega), e1 _ (by omega)] at this; exact this)
theorem LB.eq (h : LB F) (e1 : ∀ k, 141 ≤ k → F' k = F k) : LB F' := fun s hs => ⟨by rw [e1 _ (by omega)]; exact (h s hs).1, fun i hi => by rw [e1 _ (by omega)]; exact (h s hs).2 i hi⟩
theorem LB.put (h : LB F) (he : e ≤ n) (hs : s0 < 23) (hk : tK n τ e = 1) : LB (putN n τ e F s0) := by
  obtain ⟨a1, a2, a3⟩ := tK1 he hk
  intro s h1
  by_cases c : s = s0
  · subst c
    refine ⟨by rw [putN_z]; omega, fun i hi => ?_⟩
    by_cases c2 : i < tZ n τ e - tA n τ e
    · rw [putN_l h1 c2]
      have := isSm_r.mp (a3 (tA n τ e + i) (by omega) (by omega)); omega
    · rw [putN_o (by omega) (by omega)]; exact (h s h1).2 i hi
  · exact ⟨by rw [putN_o (by omega) (by omega)]; exact (h s h1).1, fun i hi => by rw [putN_o (by omega) (by omega)]; exact (h s h1).2 i hi⟩
theorem cntS_eq {m : Nat} (h : ∀ c, c < m → F' (22 + 5 * c) = F (22 + 5 * c)) : cntS F' s m = cntS F s m := by
  induction m with
  | zero => rfl
  | succ m ih =>
    show cntS F' s m + _ = cntS F s m + _
    rw [ih (fun c hc => h c (by omega)), h m (by omega)]
theorem cntS_all {m : Nat} (h : ∀ c, c < m → F (22 + 5 * c) < 3) : cntS F 0 m + cntS F 1 m + cntS F 2 m = m := by
  induction m with
  | zero => rfl
  | succ m ih =>
    have a := ih (fun c hc => h c (by omega))
    have b := h m (by omega)
    show cntS F 0 m + (if F (22 + 5 * m) = 0 then 1 else 0) + (cntS F 1 m + (if F (22 + 5 * m) = 1 then 1 else 0)) + (cntS F 2 m + (if F (22 + 5 * m) = 2 then 1 else 0)) = m + 1
    rcases i3 b with z | z | z <;> rw [z] <;> simp <;> omega
theorem cntS_z {m : Nat} (h : ∀ c, c < m → F (22 + 5 * c) ≠ s) : cntS F s m = 0 := by
  induction m with
  | zero => rfl
  | succ m ih =>
    show cntS F s m + _ = 0
    rw [ih (fun c hc => h c (by omega)), if_neg (h m (by omega))]
theorem portL_ok (he : e ≤ n) (hI : FI 0 F) (h : portL n τ e F = .inr (e', F')) : FI 1 F' ∧ e' ≤ n := by
  obtain ⟨p0, h0, h⟩ := bz_r h
  obtain ⟨p1, h1, h⟩ := bz_r h
  obtain ⟨p2, h2, h⟩ := bz_r h
  obtain ⟨p3, h3, h⟩ := bz_r h
  simp only [Sum.inr.injEq, Prod.mk.injEq] at h
  obtain ⟨rfl, rfl⟩ := h
  have a0 := waw_ok he h0
  have a1 := waw_ok a0.2.2.1 h1
  have a2 := waw_ok a1.2.2.1 h2
  have a3 := waw_ok a2.2.2.1 h3
  have hz := hI.1 rfl
  have o : ∀ k, k ≠ 0 → k ≠ 1 → k ≠ 2 → k ≠ 3 → k ≠ 8 → upN (upN (upN (upN (upN F 0 p0.1) 1 p1.1) 2 p2.1) 3 p3.1) 8 1 k = 0 := fun k b0 b1 b2 b3 b8 => by rw [upN_o b8, upN_o b3, upN_o b2, upN_o b1, upN_o b0]; exact hz k
  have e0 : upN (upN (upN (upN (upN F 0 p0.1) 1 p1.1) 2 p2.1) 3 p3.1) 8 1 0 = p0.1 := by rw [upN_o (by decide), upN_o (by decide), upN_o (by decide), upN_o (by decide), upN_s]
  have e1 : upN (upN (upN (upN (upN F 0 p0.1) 1 p1.1) 2 p2.1) 3 p3.1) 8 1 1 = p1.1 := by rw [upN_o (by decide), upN_o (by decide), upN_o (by decide), upN_s]
  have e2 : upN (upN (upN (upN (upN F 0 p0.1) 1 p1.1) 2 p2.1) 3 p3.1) 8 1 2 = p2.1 := by rw [upN_o (by decide), upN_o (by decide), upN_s]
  have e3 : upN (upN (upN (upN (upN F 0 p0.1) 1 p1.1) 2 p2.1) 3 p3.1) 8 1 3 = p3.1 := by rw [upN_o (by decide), upN_s]
  have e8 : upN (upN (upN (upN (upN F 0 p0.1) 1 p1.1) 2 p2.1) 3 p3.1) 8 1 8 = 1 := upN_s
  generalize upN (upN (upN (upN (upN F 0 p0.1) 1 p1.1) 2 p2.1) 3 p3.1) 8 1 = F' at o e0 e1 e2 e3 e8
  have o4 := o 4 (by decide) (by decide) (by decide) (by decide) (by decide)
  have o5 := o 5 (by decide) (by decide) (by decide) (by decide) (by decide)
  have o6 := o 6 (by decide) (by decide) (by decide) (by decide) (by decide)
  have o7 := o 7 (by decide) (by decide) (by decide) (by decide) (by decide)
  refine ⟨⟨fun z => by omega, fun _ => ⟨by omega, e8⟩, Or.inr rfl, ⟨⟨by omega, by omega, by omega, by omega, by omega, by omega, by omega, by omega⟩, fun s hs => by omega, fun c hc => by omega, fun c c' hc => by omega, fun s => by rw [o5]; exact Nat.zero_le _, fun t ht => by omega, fun a b ha hb => ?_, fun c hc => ?_⟩, ⟨fun s hs => ?_, fun s s' h1 h2 h3 => ?_⟩, fun s hs => ?_, fun s hs => ?_⟩, a3.2.2.1⟩
  · rw [o (101 + 5 * a + b) (by omega) (by omega) (by omega) (by omega) (by omega), o (101 + 5 * b + a) (by omega) (by omega) (by omega) (by omega) (by omega)]
    exact ⟨by omega, rfl, fun _ => rfl⟩
  · rw [o (126 + c) (by omega) (by omega) (by omega) (by omega) (by omega)]
    exact ⟨by omega, fun _ => rfl⟩
  · rw [o (141 + s) (by omega) (by omega) (by omega) (by omega) (by omega)]
    exact ⟨by omega, fun i hi => by omega⟩
  · rw [o (141 + s) (by omega) (by omega) (by omega) (by omega) (by omega)] at h3
    omega
  · rw [o (141 + s) (by omega) (by omega) (by omega) (by omega) (by omega)]
    omega
  · refine ⟨?_, fun i hi => ?_⟩
    · rw [o (141 + s) (by omega) (by omega) (by omega) (by omega) (by omega)]; omega
    · rw [o (164 + 8 * s + i) (by omega) (by omega) (by omega) (by omega) (by omega)]; omega
theorem shipL_ok (he : e ≤ n) (hI : FI 1 F) (h3 : F 4 < 3) (h : shipL n τ e F = .inr (e', F')) : FI 1 F' ∧ e' ≤ n := by
  obtain ⟨_, hn, h⟩ := bz_r h
  obtain ⟨p0, h0, h⟩ := bz_r h
  obtain ⟨p1, h1, h⟩ := bz_r h
  obtain ⟨p2, h2, h⟩ := bz_r h
  obtain ⟨p3, h4, h⟩ := bz_r h
  simp only [Sum.inr.injEq, Prod.mk.injEq] at h
  obtain ⟨rfl, rfl⟩ := h
  have hz := tZ_b (τ := τ) he
  have a0 := waw_ok hz.2 h0
  have a1 := waw_ok a0.2.2.1 h1
  have a2 := waw_ok a1.2.2.1 h2
  have a3 := waw_ok a2.2.2.1 h4
  obtain ⟨hk, _, hno⟩ := nwN_y hn
  obtain ⟨w1, w2, w3⟩ := tK1 he hk
  obtain ⟨_, i1, _, ⟨r1, r2, r3, r4, r5, r6, r7, r8⟩, hFN, hUS, hLB⟩ := hI
  have o : ∀ k, k < 141 → k ≠ 4 → ¬ (9 + 4 * F 4 ≤ k ∧ k ≤ 12 + 4 * F 4) → upN (upN (upN (upN (upN (putN n τ e F (F 4)) (9 + 4 * F 4) p0.1) (10 + 4 * F 4) p1.1) (11 + 4 * F 4) p2.1) (12 + 4 * F 4) p3.1) 4 (F 4 + 1) k = F k := fun k b1 b2 b3 => by rw [upN_o b2, upN_o (by omega), upN_o (by omega), upN_o (by omega), upN_o (by omega), putN_o (by omega) (by omega)]
  have hi : ∀ k, 141 ≤ k → upN (upN (upN (upN (upN (putN n τ e F (F 4)) (9 + 4 * F 4) p0.1) (10 + 4 * F 4) p1.1) (11 + 4 * F 4) p2.1) (12 + 4 * F 4) p3.1) 4 (F 4 + 1) k = putN n τ e F (F 4) k := fun k b1 => by rw [upN_o (by omega), upN_o (by omega), upN_o (by omega), upN_o (by omega), upN_o (by omega)]
  have e4 : upN (upN (upN (upN (upN (putN n τ e F (F 4)) (9 + 4 * F 4) p0.1) (10 + 4 * F 4) p1.1) (11 + 4 * F 4) p2.1) (12 + 4 * F 4) p3.1) 4 (F 4 + 1) 4 = F 4 + 1 := upN_s
  have q0 : upN (upN (upN (upN (upN (putN n τ e F (F 4)) (9 + 4 * F 4) p0.1) (10 + 4 * F 4) p1.1) (11 + 4 * F 4) p2.1) (12 + 4 * F 4) p3.1) 4 (F 4 + 1) (9 + 4 * F 4) = p0.1 := by rw [upN_o (by omega), upN_o (by omega), upN_o (by omega), upN_o (by omega), upN_s]
  have q1 : upN (upN (upN (upN (upN (putN n τ e F (F 4)) (9 + 4 * F 4) p0.1) (10 + 4 * F 4) p1.1) (11 + 4 * F 4) p2.1) (12 + 4 * F 4) p3.1) 4 (F 4 + 1) (10 + 4 * F 4) = p1.1 := by rw [upN_o (by omega), upN_o (by omega), upN_o (by omega), upN_s]
  have q2 : upN (upN (upN (upN (upN (putN n τ e F (F 4)) (9 + 4 * F 4) p0.1) (10 + 4 * F 4) p1.1) (11 + 4 * F 4) p2.1) (12 + 4 * F 4) p3.1) 4 (F 4 + 1) (11 + 4 * F 4) = p2.1 := by rw [upN_o (by omega), upN_o (by omega), upN_s]
  have q3 : upN (upN (upN (upN (upN (putN n τ e F (F 4)) (9 + 4 * F 4) p0.1) (10 + 4 * F 4) p1.1) (11 + 4 * F 4) p2.1) (12 + 4 * F 4) p3.1) 4 (F 4 + 1) (12 + 4 * F 4) = p3.1 := by rw [upN_o (by omega), upN_s]
  generalize upN (upN (upN (upN (upN (putN n τ e F (F 4)) (9 + 4 * F 4) p0.1) (10 + 4 * F 4) p1.1) (11 + 4 * F 4) p2.1) (12 + 4 * F 4) p3.1) 4 (F 4 + 1) = F' at o hi e4 q0 q1 q2 q3
  have o0 := o 0 (by omega) (by omega) (by omega)
  have o1 := o 1 (by omega) (by omega) (by omega)
  have o2 := o 2 (by omega) (by omega) (by omega)
  have o3 := o 3 (by omega) (by omega) (by omega)
  have o5 := o 5 (by omega) (by omega) (by omega)
  have o6 := o 6 (by omega) (by omega) (by omega)
  have o7 := o 7 (by omega) (by omega) (by omega)
  have o8 := o 8 (by omega) (by omega) (by omega)
  refine ⟨⟨fun z => by omega, fun _ => by rw [o1, o8]; exact i1 rfl, Or.inr rfl, ⟨⟨by omega, by omega, by omega, by omega, by omega, by omega, by omega, by omega⟩, fun s hs => ?_, fun c hc => ?_, fun c c' hc hc' => ?_, fun s => ?_, fun t ht => ?_, fun a b ha hb => ?_, fun c hc => ?_⟩, (hFN.put he (by omega) hn).eq hi, fun s hs => ?_, (hLB.put he (by omega) hk).eq hi⟩, a3.2.2.1⟩
  · by_cases c : s = F 4
    · subst c
      rw [q0, q1, q2, q3]
      exact ⟨by omega, by omega, by omega, by omega, by omega⟩
    · rw [o _ (by omega) (by omega) (by omega), o _ (by omega) (by omega) (by omega), o _ (by omega) (by omega) (by omega), o _ (by omega) (by omega) (by omega)]
      exact r2 s (by omega)
  · have := r3 c (by omega)
    rw [o (21 + 5 * c) (by omega) (by omega) (by omega), o (22 + 5 * c) (by omega) (by omega) (by omega), o (23 + 5 * c) (by omega) (by omega) (by omega), o (24 + 5 * c) (by omega) (by omega) (by omega), o (25 + 5 * c) (by omega) (by omega) (by omega), e4]
    exact ⟨this.1, by omega, this.2.2⟩
  · rw [o _ (by omega) (by omega) (by omega), o _ (by omega) (by omega) (by omega)]
    exact r4 c c' (by omega) (by omega)
  · rw [o5, cntS_eq (F := F) (fun c hc => o _ (by omega) (by omega) (by omega))]
    exact r5 s
  · rw [o _ (by omega) (by omega) (by omega)]
    exact r6 t (by omega)
  · rw [o _ (by omega) (by omega) (by omega), o _ (by omega) (by omega) (by omega), o6]
    exact r7 a b ha hb
  · rw [o _ (by omega) (by omega) (by omega), o5]
    exact r8 c hc
  · rw [hi _ (by omega), e4, o5, o6]
    have := hUS s hs
    by_cases c : s = F 4
    · subst c
      rw [putN_z]
      constructor
      · intro _; exact Or.inl ⟨h3, by omega⟩
      · intro _; omega
    · rw [putN_o (by omega) (by omega), this]
      omega
theorem crateL_ok (he : e ≤ n) (hI : FI 1 F) (h : crateL n τ e F = .inr (e', F')) : FI 1 F' ∧ e' ≤ n ∧ F 5 < 15 := by
  obtain ⟨_, hn, h⟩ := bz_r h
  obtain ⟨kd, hkd, h⟩ := bz_r h
  obtain ⟨e3, he3, h⟩ := bz_r h
  obtain ⟨sh, hsh, h⟩ := bz_r h
  by_cases c5 : 5 ≤ cntS F sh (F 5)
  · rw [if_pos c5] at h; cases h
  rw [if_neg c5] at h
  obtain ⟨p0, h0, h⟩ := bz_r h
  obtain ⟨p1, h1, h⟩ := bz_r h
  by_cases cd : ∃ c, c < F 5 ∧ F (23 + 5 * c) = p1.1
  · rw [if_pos cd] at h; cases h
  rw [if_neg cd] at h
  obtain ⟨p2, h2, h⟩ := bz_r h
  simp only [Sum.inr.injEq, Prod.mk.injEq] at h
  obtain ⟨rfl, rfl⟩ := h
  have hz := tZ_b (τ := τ) he
  have hz2 := tZ_b (τ := τ) hz.2
  have he3n : e3 ≤ n := by
    unfold onL at he3
    by_cases c : isW n τ (tZ n τ (tZ n τ e)) 18
    · rw [if_pos c] at he3
      simp only [Sum.inr.injEq] at he3
      rw [← he3]; exact (tZ_b hz2.2).2
    · rw [if_neg c] at he3; cases he3
  have hz3 := tZ_b (τ := τ) he3n
  have a0 := waw_ok hz3.2 h0
  have a1 := waw_ok a0.2.2.1 h1
  have a2 := waw_ok a1.2.2.1 h2
  have kd3 : kd ≤ 3 := by
    unfold kdL at hkd
    by_cases c1 : isW n τ (tZ n τ e) 14
    · rw [if_pos c1] at hkd; simp only [Sum.inr.injEq] at hkd; omega
    · rw [if_neg c1] at hkd
      by_cases c2 : isW n τ (tZ n τ e) 15
      · rw [if_pos c2] at hkd; simp only [Sum.inr.injEq] at hkd; omega
      · rw [if_neg c2] at hkd
        by_cases c3 : isW n τ (tZ n τ e) 16
        · rw [if_pos c3] at hkd; simp only [Sum.inr.injEq] at hkd; omega
        · rw [if_neg c3] at hkd
          by_cases c4 : isW n τ (tZ n τ e) 17
          · rw [if_pos c4] at hkd; simp only [Sum.inr.injEq] at hkd; omega
          · rw [if_neg c4] at hkd; cases hkd
  obtain ⟨hk, _, hno⟩ := nwN_y hn
  obtain ⟨w1, w2, w3⟩ := tK1 he hk
  obtain ⟨_, i1, _, ⟨r1, r2, r3, r4, r5, r6, r7, r8⟩, hFN, hUS, hLB⟩ := hI
  obtain ⟨_, _, sh2, shm⟩ := tnm_ok hsh
  have shF : sh < F 4 := by
    have := shm.1
    rw [putN_o (by omega) (by omega)] at this
    have := (hUS sh (by omega)).mp this
    omega
  have h15 : F 5 < 15 := by
    have := cntS_all (F := F) (m := F 5) (fun c hc => by have := (r3 c hc).2.1; omega)
    have x0 := r5 0
    have x1 := r5 1
    have x2 := r5 2
    rcases i3 (show sh < 3 by omega) with rfl | rfl | rfl <;> omega
  have o : ∀ k, k < 141 → k ≠ 5 → ¬ (21 + 5 * F 5 ≤ k ∧ k ≤ 25 + 5 * F 5) → upN (upN (upN (upN (upN (upN (putN n τ e F (3 + F 5)) (21 + 5 * F 5) kd) (22 + 5 * F 5) sh) (23 + 5 * F 5) p1.1) (24 + 5 * F 5) p2.1) (25 + 5 * F 5) p0.1) 5 (F 5 + 1) k = F k := fun k b1 b2 b3 => by rw [upN_o b2, upN_o (by omega), upN_o (by omega), upN_o (by omega), upN_o (by omega), upN_o (by omega), putN_o (by omega) (by omega)]
  have hi : ∀ k, 141 ≤ k → upN (upN (upN (upN (upN (upN (putN n τ e F (3 + F 5)) (21 + 5 * F 5) kd) (22 + 5 * F 5) sh) (23 + 5 * F 5) p1.1) (24 + 5 * F 5) p2.1) (25 + 5 * F 5) p0.1) 5 (F 5 + 1) k = putN n τ e F (3 + F 5) k := fun k b1 => by rw [upN_o (by omega), upN_o (by omega), upN_o (by omega), upN_o (by omega), upN_o (by omega), upN_o (by omega)]
  have e5 : upN (upN (upN (upN (upN (upN (putN n τ e F (3 + F 5)) (21 + 5 * F 5) kd) (22 + 5 * F 5) sh) (23 + 5 * F 5) p1.1) (24 + 5 * F 5) p2.1) (25 + 5 * F 5) p0.1) 5 (F 5 + 1) 5 = F 5 + 1 := upN_s
  have q0 : upN (upN (upN (upN (upN (upN (putN n τ e F (3 + F 5)) (21 + 5 * F 5) kd) (22 + 5 * F 5) sh) (23 + 5 * F 5) p1.1) (24 + 5 * F 5) p2.1) (25 + 5 * F 5) p0.1) 5 (F 5 + 1) (21 + 5 * F 5) = kd := by rw [upN_o (by omega), upN_o (by omega), upN_o (by omega), upN_o (by omega), upN_o (by omega), upN_s]
  have q1 : upN (upN (upN (upN (upN (upN (putN n τ e F (3 + F 5)) (21 + 5 * F 5) kd) (22 + 5 * F 5) sh) (23 + 5 * F 5) p1.1) (24 + 5 * F 5) p2.1) (25 + 5 * F 5) p0.1) 5 (F 5 + 1) (22 + 5 * F 5) = sh := by rw [upN_o (by omega), upN_o (by omega), upN_o (by omega), upN_o (by omega), upN_s]
  have q2 : upN (upN (upN (upN (upN (upN (putN n τ e F (3 + F 5)) (21 + 5 * F 5) kd) (22 + 5 * F 5) sh) (23 + 5 * F 5) p1.1) (24 + 5 * F 5) p2.1) (25 + 5 * F 5) p0.1) 5 (F 5 + 1) (23 + 5 * F 5) = p1.1 := by rw [upN_o (by omega), upN_o (by omega), upN_o (by omega), upN_s]
  have q3 : upN (upN (upN (upN (upN (upN (putN n τ e F (3 + F 5)) (21 + 5 * F 5) kd) (22 + 5 * F 5) sh) (23 + 5 * F 5) p1.1) (24 + 5 * F 5) p2.1) (25 + 5 * F 5) p0.1) 5 (F 5 + 1) (24 + 5 * F 5) = p2.1 := by rw [upN_o (by omega), upN_o (by omega), upN_s]
  have q4 : upN (upN (upN (upN (upN (upN (putN n τ e F (3 + F 5)) (21 + 5 * F 5) kd) (22 + 5 * F 5) sh) (23 + 5 * F 5) p1.1) (24 + 5 * F 5) p2.1) (25 + 5 * F 5) p0.1) 5 (F 5 + 1) (25 + 5 * F 5) = p0.1 := by rw [upN_o (by omega), upN_s]
  generalize upN (upN (upN (upN (upN (upN (putN n τ e F (3 + F 5)) (21 + 5 * F 5) kd) (22 + 5 * F 5) sh) (23 + 5 * F 5) p1.1) (24 + 5 * F 5) p2.1) (25 + 5 * F 5) p0.1) 5 (F 5 + 1) = F' at o hi e5 q0 q1 q2 q3 q4
  have o0 := o 0 (by omega) (by omega) (by omega)
  have o1 := o 1 (by omega) (by omega) (by omega)
  have o2 := o 2 (by omega) (by omega) (by omega)
  have o3 := o 3 (by omega) (by omega) (by omega)
  have o4 := o 4 (by omega) (by omega) (by omega)
  have o6 := o 6 (by omega) (by omega) (by omega)
  have o7 := o 7 (by omega) (by omega) (by omega)
  have o8 := o 8 (by omega) (by omega) (by omega)
  refine ⟨⟨fun z => by omega, fun _ => by rw [o1, o8]; exact i1 rfl, Or.inr rfl, ⟨⟨by omega, by omega, by omega, by omega, by omega, by omega, by omega, by omega⟩, fun s hs => ?_, fun c hc => ?_, fun c c' hc hc' => ?_, fun s => ?_, fun t ht => ?_, fun a b ha hb => ?_, fun c hc => ?_⟩, (hFN.put he (by omega) hn).eq hi, fun s hs => ?_, (hLB.put he (by omega) hk).eq hi⟩, a2.2.2.1, h15⟩
  · rw [o _ (by omega) (by omega) (by omega), o _ (by omega) (by omega) (by omega), o _ (by omega) (by omega) (by omega), o _ (by omega) (by omega) (by omega)]
    exact r2 s (by omega)
  · rw [o4]
    by_cases cc : c = F 5
    · subst cc
      rw [q0, q1, q2, q3, q4]
      exact ⟨kd3, shF, by omega, by omega, by omega, by omega, by omega⟩
    · rw [o _ (by omega) (by omega) (by omega), o _ (by omega) (by omega) (by omega), o _ (by omega) (by omega) (by omega), o _ (by omega) (by omega) (by omega), o _ (by omega) (by omega) (by omega)]
      exact r3 c (by omega)
  · by_cases cc : c = F 5
    · by_cases cc' : c' = F 5
      · intro _; omega
      · subst cc
        rw [q2, o _ (by omega) (by omega) (by omega)]
        intro z
        exact absurd ⟨c', by omega, z.symm⟩ cd
    · by_cases cc' : c' = F 5
      · subst cc'
        rw [q2, o _ (by omega) (by omega) (by omega)]
        intro z
        exact absurd ⟨c, by omega, z⟩ cd
      · rw [o _ (by omega) (by omega) (by omega), o _ (by omega) (by omega) (by omega)]
        exact r4 c c' (by omega) (by omega)
  · rw [e5]
    show cntS F' s (F 5) + (if F' (22 + 5 * F 5) = s then 1 else 0) ≤ 5
    rw [cntS_eq (F := F) (fun c hc => o _ (by omega) (by omega) (by omega)), q1]
    have := r5 s
    by_cases z : sh = s
    · subst z; rw [if_pos rfl]; omega
    · rw [if_neg z]; omega
  · rw [o _ (by omega) (by omega) (by omega)]
    exact r6 t (by omega)
  · rw [o _ (by omega) (by omega) (by omega), o _ (by omega) (by omega) (by omega), o6]
    exact r7 a b ha hb
  · rw [o _ (by omega) (by omega) (by omega), e5]
    have := r8 c hc
    exact ⟨this.1, fun z => this.2 (by omega)⟩
  · rw [hi _ (by omega), e5, o4, o6]
    have := hUS s hs
    by_cases c : s = 3 + F 5
    · subst c
      rw [putN_z]
      constructor
      · intro _; right; left; omega
      · intro _; omega
    · rw [putN_o (by omega) (by omega), this]
      omega
theorem townL_ok (he : e ≤ n) (hI : FI 1 F) (h5 : F 6 < 5) (h : townL n τ e F = .inr (e', F')) : FI 1 F' ∧ e' ≤ n := by
  obtain ⟨_, hn, h⟩ := bz_r h
  obtain ⟨p0, h0, h⟩ := bz_r h
  simp only [Sum.inr.injEq, Prod.mk.injEq] at h
  obtain ⟨rfl, rfl⟩ := h
  have hz := tZ_b (τ := τ) he
  have a0 := waw_ok hz.2 h0
  obtain ⟨hk, _, hno⟩ := nwN_y hn
  obtain ⟨w1, w2, w3⟩ := tK1 he hk
  obtain ⟨_, i1, _, ⟨r1, r2, r3, r4, r5, r6, r7, r8⟩, hFN, hUS, hLB⟩ := hI
  have o : ∀ k, k < 141 → k ≠ 6 → k ≠ 96 + F 6 → upN (upN (putN n τ e F (18 + F 6)) (96 + F 6) p0.1) 6 (F 6 + 1) k = F k := fun k b1 b2 b3 => by rw [upN_o b2, upN_o b3, putN_o (by omega) (by omega)]
  have hi : ∀ k, 141 ≤ k → upN (upN (putN n τ e F (18 + F 6)) (96 + F 6) p0.1) 6 (F 6 + 1) k = putN n τ e F (18 + F 6) k := fun k b1 => by rw [upN_o (by omega), upN_o (by omega)]
  have e6 : upN (upN (putN n τ e F (18 + F 6)) (96 + F 6) p0.1) 6 (F 6 + 1) 6 = F 6 + 1 := upN_s
  have q0 : upN (upN (putN n τ e F (18 + F 6)) (96 + F 6) p0.1) 6 (F 6 + 1) (96 + F 6) = p0.1 := by rw [upN_o (by omega), upN_s]
  generalize upN (upN (putN n τ e F (18 + F 6)) (96 + F 6) p0.1) 6 (F 6 + 1) = F' at o hi e6 q0
  have o0 := o 0 (by omega) (by omega) (by omega)
  have o1 := o 1 (by omega) (by omega) (by omega)
  have o2 := o 2 (by omega) (by omega) (by omega)
  have o3 := o 3 (by omega) (by omega) (by omega)
  have o4 := o 4 (by omega) (by omega) (by omega)
  have o5 := o 5 (by omega) (by omega) (by omega)
  have o7 := o 7 (by omega) (by omega) (by omega)
  have o8 := o 8 (by omega) (by omega) (by omega)
  refine ⟨⟨fun z => by omega, fun _ => by rw [o1, o8]; exact i1 rfl, Or.inr rfl, ⟨⟨by omega, by omega, by omega, by omega, by omega, by omega, by omega, by omega⟩, fun s hs => ?_, fun c hc => ?_, fun c c' hc hc' => ?_, fun s => ?_, fun t ht => ?_, fun a b ha hb => ?_, fun c hc => ?_⟩, (hFN.put he (by omega) hn).eq hi, fun s hs => ?_, (hLB.put he (by omega) hk).eq hi⟩, a0.2.2.1⟩
  · rw [o _ (by omega) (by omega) (by omega), o _ (by omega) (by omega) (by omega), o _ (by omega) (by omega) (by omega), o _ (by omega) (by omega) (by omega)]
    exact r2 s (by omega)
  · rw [o (21 + 5 * c) (by omega) (by omega) (by omega), o (22 + 5 * c) (by omega) (by omega) (by omega), o (23 + 5 * c) (by omega) (by omega) (by omega), o (24 + 5 * c) (by omega) (by omega) (by omega), o (25 + 5 * c) (by omega) (by omega) (by omega), o4]
    exact r3 c (by omega)
  · rw [o _ (by omega) (by omega) (by omega), o _ (by omega) (by omega) (by omega)]
    exact r4 c c' (by omega) (by omega)
  · rw [o5, cntS_eq (F := F) (fun c hc => o _ (by omega) (by omega) (by omega))]
    exact r5 s
  · by_cases c : t = F 6
    · subst c; rw [q0]; exact ⟨by omega, by omega⟩
    · rw [o _ (by omega) (by omega) (by omega)]
      exact r6 t (by omega)
  · rw [o _ (by omega) (by omega) (by omega), o _ (by omega) (by omega) (by omega), e6]
    have := r7 a b ha hb
    exact ⟨this.1, this.2.1, fun z => this.2.2 (by omega)⟩
  · rw [o _ (by omega) (by omega) (by omega), o5]
    exact r8 c hc
  · rw [hi _ (by omega), e6, o4, o5]
    have := hUS s hs
    by_cases c : s = 18 + F 6
    · subst c
      rw [putN_z]
      constructor
      · intro _; right; right; omega
      · intro _; omega
    · rw [putN_o (by omega) (by omega), this]
      omega
theorem roadL_ok (he : e ≤ n) (hI : FI 1 F) (h8 : F 7 < 8) (h : roadL n τ e F = .inr (e', F')) : FI 1 F' ∧ e' ≤ n := by
  obtain ⟨s1, h1, h⟩ := bz_r h
  obtain ⟨s2, h2, h⟩ := bz_r h
  by_cases c0 : s1 = s2 ∨ 0 < F (101 + 5 * (s1 - 18) + (s2 - 18))
  · rw [if_pos c0] at h; cases h
  rw [if_neg c0] at h
  obtain ⟨p0, h0, h⟩ := bz_r h
  simp only [Sum.inr.injEq, Prod.mk.injEq] at h
  obtain ⟨rfl, rfl⟩ := h
  have hz := tZ_b (τ := τ) he
  have hz2 := tZ_b (τ := τ) hz.2
  have a0 := waw_ok hz2.2 h0
  obtain ⟨_, i1, _, ⟨r1, r2, r3, r4, r5, r6, r7, r8⟩, hFN, hUS, hLB⟩ := hI
  obtain ⟨_, x1, x2, x3⟩ := tnm_ok h1
  obtain ⟨_, y1, y2, y3⟩ := tnm_ok h2
  have u1 : s1 - 18 < F 6 := by have := (hUS s1 (by omega)).mp x3.1; omega
  have u2 : s2 - 18 < F 6 := by have := (hUS s2 (by omega)).mp y3.1; omega
  obtain ⟨a, ea⟩ : ∃ a, s1 = 18 + a := ⟨s1 - 18, by omega⟩
  obtain ⟨b, eb⟩ : ∃ b, s2 = 18 + b := ⟨s2 - 18, by omega⟩
  subst ea
  subst eb
  simp only [show 18 + a - 18 = a by omega, show 18 + b - 18 = b by omega] at u1 u2 c0 ⊢
  have o : ∀ k, k ≠ 7 → k ≠ 101 + 5 * a + b → k ≠ 101 + 5 * b + a → upN (upN (upN F (101 + 5 * a + b) p0.1) (101 + 5 * b + a) p0.1) 7 (F 7 + 1) k = F k := fun k b1 b2 b3 => by rw [upN_o b1, upN_o b3, upN_o b2]
  have e7 : upN (upN (upN F (101 + 5 * a + b) p0.1) (101 + 5 * b + a) p0.1) 7 (F 7 + 1) 7 = F 7 + 1 := upN_s
  have q0 : upN (upN (upN F (101 + 5 * a + b) p0.1) (101 + 5 * b + a) p0.1) 7 (F 7 + 1) (101 + 5 * a + b) = p0.1 := by rw [upN_o (by omega), upN_o (by omega), upN_s]
  have q1 : upN (upN (upN F (101 + 5 * a + b) p0.1) (101 + 5 * b + a) p0.1) 7 (F 7 + 1) (101 + 5 * b + a) = p0.1 := by rw [upN_o (by omega), upN_s]
  generalize upN (upN (upN F (101 + 5 * a + b) p0.1) (101 + 5 * b + a) p0.1) 7 (F 7 + 1) = F' at o e7 q0 q1
  have o0 := o 0 (by omega) (by omega) (by omega)
  have o1 := o 1 (by omega) (by omega) (by omega)
  have o2 := o 2 (by omega) (by omega) (by omega)
  have o3 := o 3 (by omega) (by omega) (by omega)
  have o4 := o 4 (by omega) (by omega) (by omega)
  have o5 := o 5 (by omega) (by omega) (by omega)
  have o6 := o 6 (by omega) (by omega) (by omega)
  have o8 := o 8 (by omega) (by omega) (by omega)
  refine ⟨⟨fun z => by omega, fun _ => by rw [o1, o8]; exact i1 rfl, Or.inr rfl, ⟨⟨by omega, by omega, by omega, by omega, by omega, by omega, by omega, by omega⟩, fun s hs => ?_, fun c hc => ?_, fun c c' hc hc' => ?_, fun s => ?_, fun t ht => ?_, fun a' b' ha hb => ?_, fun c hc => ?_⟩, hFN.eq (fun k hk => o k (by omega) (by omega) (by omega)), fun s hs => ?_, hLB.eq (fun k hk => o k (by omega) (by omega) (by omega))⟩, a0.2.2.1⟩
  · rw [o _ (by omega) (by omega) (by omega), o _ (by omega) (by omega) (by omega), o _ (by omega) (by omega) (by omega), o _ (by omega) (by omega) (by omega)]
    exact r2 s (by omega)
  · rw [o (21 + 5 * c) (by omega) (by omega) (by omega), o (22 + 5 * c) (by omega) (by omega) (by omega), o (23 + 5 * c) (by omega) (by omega) (by omega), o (24 + 5 * c) (by omega) (by omega) (by omega), o (25 + 5 * c) (by omega) (by omega) (by omega), o4]
    exact r3 c (by omega)
  · rw [o _ (by omega) (by omega) (by omega), o _ (by omega) (by omega) (by omega)]
    exact r4 c c' (by omega) (by omega)
  · rw [o5, cntS_eq (F := F) (fun c hc => o _ (by omega) (by omega) (by omega))]
    exact r5 s
  · rw [o _ (by omega) (by omega) (by omega)]
    exact r6 t (by omega)
  · by_cases z1 : a' = a ∧ b' = b
    · obtain ⟨rfl, rfl⟩ := z1
      rw [q0, q1]
      exact ⟨by omega, rfl, fun z => by omega⟩
    · by_cases z2 : a' = b ∧ b' = a
      · obtain ⟨rfl, rfl⟩ := z2
        rw [q0, q1]
        exact ⟨by omega, rfl, fun z => by omega⟩
      · rw [o _ (by omega) (by omega) (by omega), o _ (by omega) (by omega) (by omega), o6]
        exact r7 a' b' ha hb
  · rw [o _ (by omega) (by omega) (by omega), o5]
    exact r8 c hc
  · rw [o _ (by omega) (by omega) (by omega), o4, o5, o6]
    exact hUS s hs
theorem openL_ok (he : e ≤ n) (hI : FI 1 F) (h : openL n τ e F = .inr (e', F')) : FI 1 F' ∧ e' ≤ n := by
  obtain ⟨s1, h1, h⟩ := bz_r h
  have hz := tZ_b (τ := τ) he
  have hz2 := tZ_b (τ := τ) hz.2
  obtain ⟨_, i1, _, ⟨r1, r2, r3, r4, r5, r6, r7, r8⟩, hFN, hUS, hLB⟩ := hI
  obtain ⟨_, x1, x2, x3⟩ := tnm_ok h1
  have u1 : s1 - 3 < F 5 := by have := (hUS s1 (by omega)).mp x3.1; omega
  have key : ∀ v, v ≤ 2 → FI 1 (upN F (126 + (s1 - 3)) v) := by
    intro v hv
    have o : ∀ k, k ≠ 126 + (s1 - 3) → upN F (126 + (s1 - 3)) v k = F k := fun k b1 => upN_o b1
    have q0 : upN F (126 + (s1 - 3)) v (126 + (s1 - 3)) = v := upN_s
    generalize upN F (126 + (s1 - 3)) v = F' at o q0
    have o0 := o 0 (by omega)
    have o1 := o 1 (by omega)
    have o2 := o 2 (by omega)
    have o3 := o 3 (by omega)
    have o4 := o 4 (by omega)
    have o5 := o 5 (by omega)
    have o6 := o 6 (by omega)
    have o7 := o 7 (by omega)
    have o8 := o 8 (by omega)
    refine ⟨fun z => by omega, fun _ => by rw [o1, o8]; exact i1 rfl, Or.inr rfl, ⟨⟨by omega, by omega, by omega, by omega, by omega, by omega, by omega, by omega⟩, fun s hs => ?_, fun c hc => ?_, fun c c' hc hc' => ?_, fun s => ?_, fun t ht => ?_, fun a' b' ha hb => ?_, fun c hc => ?_⟩, hFN.eq (fun k hk => o k (by omega)), fun s hs => ?_, hLB.eq (fun k hk => o k (by omega))⟩
    · rw [o _ (by omega), o _ (by omega), o _ (by omega), o _ (by omega)]
      exact r2 s (by omega)
    · rw [o (21 + 5 * c) (by omega), o (22 + 5 * c) (by omega), o (23 + 5 * c) (by omega), o (24 + 5 * c) (by omega), o (25 + 5 * c) (by omega), o4]
      exact r3 c (by omega)
    · rw [o _ (by omega), o _ (by omega)]
      exact r4 c c' (by omega) (by omega)
    · rw [o5, cntS_eq (F := F) (fun c hc => o _ (by omega))]
      exact r5 s
    · rw [o _ (by omega)]
      exact r6 t (by omega)
    · rw [o _ (by omega), o _ (by omega), o6]
      exact r7 a' b' ha hb
    · rw [o5]
      by_cases z : c = s1 - 3
      · subst z; rw [q0]; exact ⟨hv, fun y => by omega⟩
      · rw [o _ (by omega)]; exact r8 c hc
    · rw [o _ (by omega), o4, o5, o6]
      exact hUS s hs
  by_cases c0 : 0 < F (126 + (s1 - 3))
  · rw [if_pos c0] at h; cases h
  · rw [if_neg c0] at h
    by_cases c1 : isW n τ (tZ n τ e) 24
    · rw [if_pos c1] at h
      simp only [Sum.inr.injEq, Prod.mk.injEq] at h
      obtain ⟨rfl, rfl⟩ := h
      exact ⟨key 1 (by decide), hz2.2⟩
    · rw [if_neg c1] at h
      by_cases c2 : isW n τ (tZ n τ e) 10
      · rw [if_pos c2] at h
        simp only [Sum.inr.injEq, Prod.mk.injEq] at h
        obtain ⟨rfl, rfl⟩ := h
        exact ⟨key 2 (by decide), hz2.2⟩
      · rw [if_neg c2] at h; cases h
end
