/-! THE TEXT: the yard of a port that was just read -/
abbrev kcF (F : Nat → Nat) (c : Nat) : Nat := 3 * F (22 + 5 * c) + F (25 + 5 * c)
def bgY (F : Nat → Nat) : Nat → Nat → Nat
  | 0 => fun _ => 0
  | m + 1 => upN (upN (upN (upN (bgY F m) m (F (25 + 5 * m))) (60 + m) (F (126 + m))) (75 + 5 * kcF F m + bgY F m (120 + kcF F m)) (m + 1)) (120 + kcF F m) (bgY F m (120 + kcF F m) + 1)
def BI (F : Nat → Nat) (m : Nat) (Y : Nat → Nat) : Prop :=
  (∀ k, k < 9 → Y (120 + k) ≤ cntS F (k / 3) m ∧ ∀ i, i < Y (120 + k) → 1 ≤ Y (75 + 5 * k + i) ∧ Y (75 + 5 * k + i) ≤ m ∧ F (22 + 5 * (Y (75 + 5 * k + i) - 1)) = k / 3 ∧ F (25 + 5 * (Y (75 + 5 * k + i) - 1)) = k % 3) ∧
  (∀ k i i', k < 9 → i < Y (120 + k) → i' < Y (120 + k) → Y (75 + 5 * k + i) = Y (75 + 5 * k + i') → i = i') ∧
  (∀ k i, k < 9 → Y (120 + k) ≤ i → i < 5 → Y (75 + 5 * k + i) = 0) ∧
  (∀ c, c < m → Y c = F (25 + 5 * c) ∧ Y (60 + c) = F (126 + c) ∧ ∃ i, i < Y (120 + kcF F c) ∧ Y (75 + 5 * kcF F c + i) = c + 1) ∧
  (∀ k, (m ≤ k ∧ k < 60) ∨ (60 + m ≤ k ∧ k < 75) ∨ 129 ≤ k → Y k = 0)
section
variable {F : Nat → Nat} {m : Nat}
theorem cntS_mo {s : Nat} : ∀ a b, cntS F s a ≤ cntS F s (a + b) := by
  intro a b
  induction b with
  | zero => exact Nat.le_refl _
  | succ b ih => exact Nat.le_trans ih (Nat.le_add_right _ _)
theorem BI.lt (hB : RB F) {Y : Nat → Nat} (h : BI F m Y) (hm : m < F 5) : Y (120 + kcF F m) < 5 := by
  have c := hB.2.2.1 m hm
  have r4 := hB.1.2.2.2.2.1
  have kq : kcF F m = 3 * F (22 + 5 * m) + F (25 + 5 * m) := rfl
  have a := (h.1 (kcF F m) (by omega)).1
  rw [show kcF F m / 3 = F (22 + 5 * m) by omega] at a
  have b : cntS F (F (22 + 5 * m)) (m + 1) = cntS F (F (22 + 5 * m)) m + 1 := by show _ + ite _ _ _ = _; rw [if_pos rfl]
  have d := cntS_mo (F := F) (s := F (22 + 5 * m)) (m + 1) (F 5 - (m + 1))
  rw [show m + 1 + (F 5 - (m + 1)) = F 5 by omega] at d
  have e := hB.2.2.2.2.1 (F (22 + 5 * m))
  omega
theorem bgY_ok (hB : RB F) : ∀ m, m ≤ F 5 → BI F m (bgY F m) := by
  intro m
  induction m with
  | zero =>
    intro _
    exact ⟨fun k _ => ⟨Nat.zero_le _, fun i hi => absurd hi (Nat.not_lt_zero _)⟩, fun k i i' _ hi => absurd hi (Nat.not_lt_zero _), fun _ _ _ _ _ => rfl, fun c hc => absurd hc (Nat.not_lt_zero _), fun _ _ => rfl⟩
  | succ m ih =>
    intro hm
    have hI := ih (by omega)
    have hlt := hI.lt hB (by omega)
    have c := hB.2.2.1 m (by omega)
    have r4 := hB.1.2.2.2.2.1
    have r5 := hB.1.2.2.2.2.2.1
    obtain ⟨h1, h2, h3, h4, h5⟩ := hI
    have kq : kcF F m = 3 * F (22 + 5 * m) + F (25 + 5 * m) := rfl
    have hk : kcF F m < 9 := by omega
    generalize hK : kcF F m = K at *
    have kd : K / 3 = F (22 + 5 * m) ∧ K % 3 = F (25 + 5 * m) := by omega
    generalize hY : bgY F m = Y at *
    have eY : bgY F (m + 1) = upN (upN (upN (upN Y m (F (25 + 5 * m))) (60 + m) (F (126 + m))) (75 + 5 * K + Y (120 + K)) (m + 1)) (120 + K) (Y (120 + K) + 1) := by
      rw [← hY, ← hK]; rfl
    generalize hZ : bgY F (m + 1) = Z at *
    have z120 : Z (120 + K) = Y (120 + K) + 1 := by rw [eY]; unfold upN; rw [if_pos rfl]
    have zs : Z (75 + 5 * K + Y (120 + K)) = m + 1 := by rw [eY]; unfold upN; rw [if_neg (by omega), if_pos rfl]
    have zm : Z m = F (25 + 5 * m) := by rw [eY]; unfold upN; rw [if_neg (by omega), if_neg (by omega), if_neg (by omega), if_pos rfl]
    have zo : Z (60 + m) = F (126 + m) := by rw [eY]; unfold upN; rw [if_neg (by omega), if_neg (by omega), if_pos rfl]
    have oo : ∀ k, k ≠ 120 + K → k ≠ 75 + 5 * K + Y (120 + K) → k ≠ 60 + m → k ≠ m → Z k = Y k := fun k y1 y2 y3 y4 => by rw [eY]; unfold upN; rw [if_neg y1, if_neg y2, if_neg y3, if_neg y4]
    clear eY hY hZ
    have cs : ∀ s, cntS F s (m + 1) = cntS F s m + (if F (22 + 5 * m) = s then 1 else 0) := fun s => rfl
    have z12 : ∀ k, k < 9 → k ≠ K → Z (120 + k) = Y (120 + k) := fun k a b => oo _ (by omega) (by omega) (by omega) (by omega)
    have zst : ∀ k i, k < 9 → i < 5 → ¬ (k = K ∧ i = Y (120 + K)) → Z (75 + 5 * k + i) = Y (75 + 5 * k + i) := fun k i a b e => oo _ (by omega) (by omega) (by omega) (by omega)
    have b5 : ∀ k, k < 9 → Y (120 + k) ≤ 5 := fun k hk' => by
      have a := (h1 k hk').1
      have d := cntS_mo (F := F) (s := k / 3) m (F 5 - m)
      rw [show m + (F 5 - m) = F 5 by omega] at d
      have e := hB.2.2.2.2.1 (k / 3)
      omega
    refine ⟨fun k hk' => ?_, fun k i i' hk' hi hi' he => ?_, fun k i hk' hi hi5 => ?_, fun c' hc' => ?_, fun k hk' => ?_⟩
    · by_cases e : k = K
      · subst e
        rw [z120, cs, if_pos kd.1.symm]
        refine ⟨by have := (h1 k hk').1; omega, fun i hi => ?_⟩
        by_cases e2 : i = Y (120 + k)
        · subst e2
          rw [zs]
          exact ⟨by omega, by omega, by rw [Nat.add_sub_cancel]; exact kd.1.symm, by rw [Nat.add_sub_cancel]; exact kd.2.symm⟩
        · rw [zst k i hk' (by omega) (by omega)]
          have := (h1 k hk').2 i (by omega)
          exact ⟨this.1, by omega, this.2.2⟩
      · rw [z12 k hk' e, cs]
        refine ⟨by have := (h1 k hk').1; omega, fun i hi => ?_⟩
        have := b5 k hk'
        rw [zst k i hk' (by omega) (by omega)]
        have := (h1 k hk').2 i hi
        exact ⟨this.1, by omega, this.2.2⟩
    · have b := b5 k hk'
      by_cases e : k = K
      · subst e
        rw [z120] at hi hi'
        by_cases e1 : i = Y (120 + k)
        · by_cases e2 : i' = Y (120 + k)
          · omega
          · subst e1
            rw [zs, zst k i' hk' (by omega) (by omega)] at he
            have := (h1 k hk').2 i' (by omega); omega
        · by_cases e2 : i' = Y (120 + k)
          · subst e2
            rw [zs, zst k i hk' (by omega) (by omega)] at he
            have := (h1 k hk').2 i (by omega); omega
          · rw [zst k i hk' (by omega) (by omega), zst k i' hk' (by omega) (by omega)] at he
            exact h2 k i i' hk' (by omega) (by omega) he
      · rw [z12 k hk' e] at hi hi'
        rw [zst k i hk' (by omega) (by omega), zst k i' hk' (by omega) (by omega)] at he
        exact h2 k i i' hk' hi hi' he
    · by_cases e : k = K
      · subst e
        rw [z120] at hi
        rw [zst k i hk' hi5 (by omega)]
        exact h3 k i hk' (by omega) hi5
      · rw [z12 k hk' e] at hi
        rw [zst k i hk' hi5 (by omega)]
        exact h3 k i hk' hi hi5
    · by_cases e : c' = m
      · subst e
        refine ⟨zm, zo, Y (120 + K), ?_, ?_⟩
        · rw [hK, z120]; omega
        · rw [hK]; exact zs
      · have q := h4 c' (by omega)
        have cc := hB.2.2.1 c' (by omega)
        rw [oo c' (by omega) (by omega) (by omega) (by omega), oo (60 + c') (by omega) (by omega) (by omega) (by omega)]
        refine ⟨q.1, q.2.1, ?_⟩
        obtain ⟨i, a, b⟩ := q.2.2
        have kq2 : kcF F c' = 3 * F (22 + 5 * c') + F (25 + 5 * c') := rfl
        have hk2 : kcF F c' < 9 := by omega
        have b' := b5 _ hk2
        by_cases e2 : kcF F c' = K
        · rw [e2] at a b ⊢
          refine ⟨i, by rw [z120]; omega, ?_⟩
          rw [zst K i hk (by omega) (by omega)]; exact b
        · refine ⟨i, by rw [z12 _ hk2 e2]; exact a, ?_⟩
          rw [zst _ i hk2 (by omega) (by omega)]; exact b
    · rw [oo k (by omega) (by omega) (by omega) (by omega)]
      exact h5 k (by omega)
theorem bgY_yo {n : Nat} (hB : RB F) : YO n F (bgY F (F 5)) := by
  have r4 := hB.1.2.2.2.2.1
  have r5 := hB.1.2.2.2.2.2.1
  obtain ⟨h1, h2, h3, h4, h5⟩ := bgY_ok hB (F 5) (Nat.le_refl _)
  generalize bgY F (F 5) = Y at *
  have z144 : Y 144 = 0 := h5 144 (by omega)
  have z145 : Y 145 = 0 := h5 145 (by omega)
  have z146 : Y 146 = 0 := h5 146 (by omega)
  have yc : ∀ c, c < F 5 → Y c ≤ 2 := fun c hc => by rw [(h4 c hc).1]; exact (hB.2.2.1 c hc).2.2.2.2.2.2
  have r8 := hB.2.2.2.2.2.2.2
  refine ⟨fun k hk => ⟨?_, fun hk2 => ?_, fun i hi => ?_⟩, h2, h3, fun c hc _ => ?_, ⟨by omega, fun i hi => by omega⟩, fun i i' hi => by omega, fun c hc e => by have := yc c hc; omega, fun c hc => ⟨by have := yc c hc; omega, by rw [h5 (15 + c) (by omega)]; exact Nat.zero_le _, ?_, by rw [h5 (45 + c) (by omega)]; exact Nat.zero_le _⟩, fun c hc => ?_, ⟨by omega, fun d hd => ?_⟩, fun d d' hd hd' e => ?_, ⟨by omega, fun c hc _ => h5 _ (by omega)⟩⟩
  · have a := (h1 k hk).1
    have e := hB.2.2.2.2.1 (k / 3); omega
  · have a := (h1 k hk).1
    rw [cntS_z (F := F) (fun c hc => by have := (hB.2.2.1 c hc).2.1; omega)] at a
    omega
  · have a := (h1 k hk).2 i hi
    refine ⟨a.1, a.2.1, a.2.2.1, ?_⟩
    rw [(h4 _ (by omega)).1]; exact a.2.2.2
  · have := (h4 c hc)
    rw [this.1]
    exact this.2.2
  · rw [h5 (30 + c) (by omega), h5 (15 + c) (by omega), if_neg (by omega)]
  · by_cases e : c < F 5
    · rw [(h4 c e).2.1]; exact ⟨(r8 c hc).1, fun z => by omega⟩
    · rw [h5 (60 + c) (by omega)]; exact ⟨by omega, fun _ => rfl⟩
  · rw [h5 (147 + d) (by omega)]; exact ⟨Nat.zero_le _, fun z => by omega⟩
  · rw [h5 (147 + d) (by omega)] at e; omega
end
