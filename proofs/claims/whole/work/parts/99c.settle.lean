/-! THE TEXT: Inland.measure and Strike.settle -/
def mxI (f : Nat → Int32) : Nat → Int32
  | 0 => f 0
  | m + 1 => if mxI f m < f (m + 1) then f (m + 1) else mxI f m
theorem mxI_ge (f : Nat → Int32) : ∀ m k, k ≤ m → f k ≤ mxI f m := by
  intro m
  induction m with
  | zero => intro k hk; have : k = 0 := by omega
            subst this; exact Int32.le_refl _
  | succ m ih =>
    intro k hk
    show f k ≤ if mxI f m < f (m + 1) then f (m + 1) else mxI f m
    by_cases c : k = m + 1
    · subst c
      split
      · exact Int32.le_refl _
      · rename_i z; exact nlt_le.mp z
    · have := ih k (by omega)
      split
      · rename_i z
        rw [Int32.le_iff_toInt_le] at this ⊢
        rw [Int32.lt_iff_toInt_lt] at z
        omega
      · exact this
theorem mxI_mem (f : Nat → Int32) : ∀ m, ∃ k, k ≤ m ∧ mxI f m = f k := by
  intro m
  induction m with
  | zero => exact ⟨0, Nat.le_refl _, rfl⟩
  | succ m ih =>
    show ∃ k, k ≤ m + 1 ∧ (if mxI f m < f (m + 1) then f (m + 1) else mxI f m) = f k
    split
    · exact ⟨m + 1, Nat.le_refl _, rfl⟩
    · obtain ⟨k, a, b⟩ := ih
      exact ⟨k, by omega, b⟩
theorem mxI_eq (f : Nat → Int32) {a m : Nat} (ha : a ≤ m) : f a = mxI f m ↔ ∀ k, k ≤ m → f k ≤ f a := by
  constructor
  · intro h k hk; rw [h]; exact mxI_ge f m k hk
  · intro h
    obtain ⟨k, a1, b⟩ := mxI_mem f m
    have x := mxI_ge f m a ha
    have y := h k a1
    rw [← b] at y
    exact Int32.le_antisymm x y
section
variable {d q : Nat} {F : Nat → Nat} {r : Rr} {g g' : Gi} {j : Gl}
theorem X_ofGang2 {K : Int32 → Rr → Gi → Gl → Prop} (hp : q = 2 ∨ q = 30) (h1 : g q 1 = nI (F 1)) (h2 : g q 2 = nI (F 2)) {a c : Nat} (ha : a ≤ 9) (hc : c ≤ 9) (h : K (gaV F a c) r g j) : Cm (d + 1) 53 [.ref q, .int (nI a), .int (nI c)] r g j (rkI K) := by
  have st : ∀ w, w = (if c < a then F 1 else 0) → G (d + 1) 53 13 [(0, .ref q), (1, .int (nI a)), (2, .int (nI c))] [.int (nI w)] r g j (rkI K) := by
    intro w hw
    refine vX7_ofGang_13 (OB_i (SH_p hp) ?_)
    rw [nI_min (by omega) (by omega), h2, pk_mul, hw]
    exact h
  refine vX7_ofGang_0 ⟨fun e => st 0 ?_, fun e => OB_i (SH_p hp) ?_⟩
  · have := le_n (by omega) (by omega) e
    rw [if_neg (by omega)]
  · have : ¬ (a ≤ c) := fun z => e (nI_le z (by omega))
    rw [h1]
    exact st _ (by rw [if_pos (by omega)])
theorem X_ofCouncil2 {K : Int32 → Rr → Gi → Gl → Prop} (hp : q = 2 ∨ q = 30) (h1 : g q 1 = nI (F 1)) (h2 : g q 3 = nI (F 3)) {a c : Nat} (ha : a ≤ 9) (hc : c ≤ 9) (h : K (coV F a c) r g j) : Cm (d + 1) 54 [.ref q, .int (nI a), .int (nI c)] r g j (rkI K) := by
  have st : ∀ w, w = (if c < a then F 1 else 0) → G (d + 1) 54 13 [(0, .ref q), (1, .int (nI a)), (2, .int (nI c))] [.int (nI w)] r g j (rkI K) := by
    intro w hw
    refine vX7_ofCouncil_13 (OB_i (SH_p hp) ?_)
    rw [nI_min (by omega) (by omega), h2, pk_mul, hw]
    exact h
  refine vX7_ofCouncil_0 ⟨fun e => st 0 ?_, fun e => OB_i (SH_p hp) ?_⟩
  · have := le_n (by omega) (by omega) e
    rw [if_neg (by omega)]
  · have : ¬ (a ≤ c) := fun z => e (nI_le z (by omega))
    rw [h1]
    exact st _ (by rw [if_pos (by omega)])
theorem X_settle {K : Rr → Gi → Gl → Prop} (hp : q = 2 ∨ q = 30) (hx : Px q F g) (h : ∀ g', g' 88 1 = nI (rsL F).length → (∀ i v, (rsL F)[i]? = some v → g' 89 i = nI v) → (∀ a k, ¬ (88 ≤ a ∧ a ≤ 91) → g' a k = g a k) → K r g' j) : Cm (d + 2) 55 [.ref 88, .ref q] r g j (rkV K) := by
  have x1 : g q 1 = nI (F 1) := hx.1.2.1
  have x2 : g q 2 = nI (F 2) := hx.1.2.2.1
  have x3 : g q 3 = nI (F 3) := hx.1.2.2.2.1
  have second : ∀ gg, (∀ a k, ¬ (88 ≤ a ∧ a ≤ 91) → gg a k = g a k) → (∀ c, c < 10 → gg 90 c = mxI (fun k => gaV F k c) 9 ∧ gg 91 c = mxI (fun k => coV F c k) 9) → gg 88 1 = nI 0 → G (d + 2) 55 101 [(0, .ref 88), (1, .ref q), (2, .int (nI 0))] [] r gg j (rkV K) := by
    intro gg ho hm h0
    have inner : ∀ w a c, c + w = 10 → a < 10 → (∀ g2, (∀ a k, ¬ (88 ≤ a ∧ a ≤ 91) → g2 a k = g a k) → (∀ c, c < 10 → g2 90 c = mxI (fun k => gaV F k c) 9 ∧ g2 91 c = mxI (fun k => coV F c k) 9) → g2 88 1 = nI (rsN F (10 * (a + 1))).length → (∀ i v, (rsN F (10 * (a + 1)))[i]? = some v → g2 89 i = nI v) → G (d + 2) 55 101 [(0, .ref 88), (1, .ref q), (2, .int (nI (a + 1)))] [] r g2 j (rkV K)) → ∀ g2, (∀ a k, ¬ (88 ≤ a ∧ a ≤ 91) → g2 a k = g a k) → (∀ c, c < 10 → g2 90 c = mxI (fun k => gaV F k c) 9 ∧ g2 91 c = mxI (fun k => coV F c k) 9) → g2 88 1 = nI (rsN F (10 * a + c)).length → (∀ i v, (rsN F (10 * a + c))[i]? = some v → g2 89 i = nI v) → G (d + 2) 55 109 [(0, .ref 88), (1, .ref q), (2, .int (nI a)), (3, .int (nI c))] [] r g2 j (rkV K) := by
      intro w
      induction w with
      | zero =>
        intro a c hc ha hk g2 o2 m2 l2 r2
        have : c = 10 := hc
        subst this
        refine vX7_settle_109 ⟨fun _ => ?_, fun y => absurd (Int32.le_refl _) y⟩
        rw [nI_add]
        exact hk g2 o2 m2 l2 r2
      | succ w ih =>
        intro a c hc ha hk g2 o2 m2 l2 r2
        have ed : (10 * a + c) / 10 = a ∧ (10 * a + c) % 10 = c := by omega
        have ln := rsN_len F (10 * a + c)
        have next : ∀ g3, (∀ a k, ¬ (88 ≤ a ∧ a ≤ 91) → g3 a k = g a k) → (∀ c, c < 10 → g3 90 c = mxI (fun k => gaV F k c) 9 ∧ g3 91 c = mxI (fun k => coV F c k) 9) → g3 88 1 = nI (rsN F (10 * a + c + 1)).length → (∀ i v, (rsN F (10 * a + c + 1))[i]? = some v → g3 89 i = nI v) → G (d + 2) 55 182 [(0, .ref 88), (1, .ref q), (2, .int (nI a)), (3, .int (nI c))] [] r g3 j (rkV K) := by
          intro g3 o3 m3 l3 r3
          refine vX7_settle_182 ?_
          rw [nI_add]
          exact ih a (c + 1) (by omega) ha hk g3 o3 m3 l3 r3
        have noR : ¬ isR F a c → G (d + 2) 55 182 [(0, .ref 88), (1, .ref q), (2, .int (nI a)), (3, .int (nI c))] [] r g2 j (rkV K) := by
          intro hn
          have e := rsN_f (R := F) (q := 10 * a + c) (by rw [ed.1, ed.2]; exact hn)
          exact next g2 o2 m2 (by rw [e]; exact l2) (by rw [e]; exact r2)
        refine vX7_settle_109 ⟨fun y => by rw [nI_leI (by omega) (by omega)] at y; omega, fun _ => X_ofGang2 hp (by rw [o2 q 1 (by omega)]; exact x1) (by rw [o2 q 2 (by omega)]; exact x2) (by omega) (by omega) (IX_l (by omega) ⟨fun y => vX7_settle_135 ⟨fun y => absurd y n10, fun _ => X_ofCouncil2 hp (by rw [o2 q 1 (by omega)]; exact x1) (by rw [o2 q 3 (by omega)]; exact x3) (by omega) (by omega) (IX_l (by omega) ⟨fun y2 => ?_, fun y2 => noR (fun hr => y2 ?_)⟩)⟩, fun y => vX7_settle_135 ⟨fun _ => noR (fun hr => y ?_), fun y => absurd n00 y⟩⟩)⟩
        · have ga := (mxI_eq (fun k => gaV F k c) (a := a) (m := 9) (by omega)).mp (by rw [← (m2 c (by omega)).1]; exact y)
          have co := (mxI_eq (fun k => coV F a k) (a := c) (m := 9) (by omega)).mp (by rw [← (m2 a (by omega)).2]; exact y2)
          have hr : isR F a c := fun k hk => ⟨ga k hk, co k hk⟩
          have e := rsN_t (R := F) (q := 10 * a + c) (by rw [ed.1, ed.2]; exact hr)
          rw [l2]
          refine IX_l (by omega) ?_
          rw [pk_mul, nI_add, nI_add]
          refine next _ (fun a k z => by rw [uI_o (by omega), uI_o (by omega)]; exact o2 a k z) (fun c hc => by rw [uI_o (by decide), uI_o (by decide), uI_o (by decide), uI_o (by decide)]; exact m2 c hc) (by rw [uI_s, e, List.length_append]; rfl) (fun i v hv => ?_)
          rw [uI_o (by decide)]
          rw [e] at hv
          rcases Nat.lt_or_ge i (rsN F (10 * a + c)).length with hl | hl
          · rw [List.getElem?_append_left hl] at hv
            rw [uI_n (by omega)]
            exact r2 i v hv
          · rw [List.getElem?_append_right hl] at hv
            cases hk2 : i - (rsN F (10 * a + c)).length with
            | zero =>
              rw [hk2] at hv
              simp at hv
              have : i = (rsN F (10 * a + c)).length := by omega
              subst this
              rw [uI_s, hv]
            | succ k => rw [hk2] at hv; simp at hv
        · rw [(m2 a (by omega)).2]
          exact (mxI_eq (fun k => coV F a k) (a := c) (m := 9) (by omega)).mpr (fun k hk => (hr k hk).2)
        · rw [(m2 c (by omega)).1]
          exact (mxI_eq (fun k => gaV F k c) (a := a) (m := 9) (by omega)).mpr (fun k hk => (hr k hk).1)
    have outer : ∀ w a, a + w = 10 → ∀ g2, (∀ a k, ¬ (88 ≤ a ∧ a ≤ 91) → g2 a k = g a k) → (∀ c, c < 10 → g2 90 c = mxI (fun k => gaV F k c) 9 ∧ g2 91 c = mxI (fun k => coV F c k) 9) → g2 88 1 = nI (rsN F (10 * a)).length → (∀ i v, (rsN F (10 * a))[i]? = some v → g2 89 i = nI v) → G (d + 2) 55 101 [(0, .ref 88), (1, .ref q), (2, .int (nI a))] [] r g2 j (rkV K) := by
      intro w
      induction w with
      | zero =>
        intro a ha g2 o2 m2 l2 r2
        have : a = 10 := ha
        subst this
        exact vX7_settle_101 ⟨fun _ => h g2 l2 r2 o2, fun y => absurd (Int32.le_refl _) y⟩
      | succ w ih =>
        intro a ha g2 o2 m2 l2 r2
        exact vX7_settle_101 ⟨fun y => by rw [nI_leI (by omega) (by omega)] at y; omega, fun _ => inner 10 a 0 (by omega) (by omega) (fun g3 o3 m3 l3 r3 => ih (a + 1) (by omega) g3 o3 m3 l3 r3) g2 o2 m2 l2 r2⟩
    exact outer 10 0 (by omega) gg ho hm h0 (fun i v hv => by simp [rsN] at hv)
  have row : ∀ w c k, k + 1 + w = 10 → c < 10 → (∀ g2, (∀ a k, ¬ (88 ≤ a ∧ a ≤ 91) → g2 a k = g a k) → (∀ c', c' < c + 1 → g2 90 c' = mxI (fun k => gaV F k c') 9 ∧ g2 91 c' = mxI (fun k => coV F c' k) 9) → G (d + 2) 55 2 [(0, .ref 88), (1, .ref q), (2, .int (nI (c + 1)))] [] r g2 j (rkV K)) → ∀ g2, (∀ a k, ¬ (88 ≤ a ∧ a ≤ 91) → g2 a k = g a k) → (∀ c', c' < c → g2 90 c' = mxI (fun k => gaV F k c') 9 ∧ g2 91 c' = mxI (fun k => coV F c' k) 9) → g2 90 c = mxI (fun k => gaV F k c) k → g2 91 c = mxI (fun k => coV F c k) k → G (d + 2) 55 34 [(0, .ref 88), (1, .ref q), (2, .int (nI c)), (3, .int (nI (k + 1)))] [] r g2 j (rkV K) := by
    intro w
    induction w with
    | zero =>
      intro c k hk hc hK g2 o2 m2 a2 b2
      have : k = 9 := by omega
      subst this
      refine vX7_settle_34 ⟨fun _ => ?_, fun y => absurd (Int32.le_refl _) y⟩
      rw [nI_add]
      refine hK g2 o2 (fun c' hc' => ?_)
      by_cases z : c' = c
      · subst z; exact ⟨a2, b2⟩
      · exact m2 c' (by omega)
    | succ w ih =>
      intro c k hk hc hK g2 o2 m2 a2 b2
      refine vX7_settle_34 ⟨fun y => by rw [nI_leI (by omega) (by omega)] at y; omega, fun _ => IX_l (by omega) (X_ofGang2 hp (by rw [o2 q 1 (by omega)]; exact x1) (by rw [o2 q 2 (by omega)]; exact x2) (by omega) (by omega) (IX_l (by omega) (IX_l (by omega) (X_ofCouncil2 hp (by rw [uI_o (by omega), o2 q 1 (by omega)]; exact x1) (by rw [uI_o (by omega), o2 q 3 (by omega)]; exact x3) (by omega) (by omega) (IX_l (by omega) ?_)))))⟩
      rw [nI_add]
      refine ih c (k + 1) (by omega) hc hK _ (fun a k z => by rw [uI_o (by omega), uI_o (by omega)]; exact o2 a k z) (fun c' hc' => ?_) ?_ ?_
      · rw [uI_o (by decide), uI_n (by omega), uI_n (by omega), uI_o (by decide)]; exact m2 c' hc'
      · rw [uI_o (by decide), uI_s, a2]; rfl
      · rw [uI_s, b2]; rfl
  have first : ∀ w c, c + w = 10 → ∀ g2, (∀ a k, ¬ (88 ≤ a ∧ a ≤ 91) → g2 a k = g a k) → (∀ c', c' < c → g2 90 c' = mxI (fun k => gaV F k c') 9 ∧ g2 91 c' = mxI (fun k => coV F c' k) 9) → G (d + 2) 55 2 [(0, .ref 88), (1, .ref q), (2, .int (nI c))] [] r g2 j (rkV K) := by
    intro w
    induction w with
    | zero =>
      intro c hc g2 o2 m2
      have : c = 10 := hc
      subst this
      exact vX7_settle_2 ⟨fun _ => second _ (fun a k z => by rw [uI_o (by omega)]; exact o2 a k z) (fun c hc => by rw [uI_o (by decide), uI_o (by decide)]; exact m2 c hc) uI_s, fun y => absurd (Int32.le_refl _) y⟩
    | succ w ih =>
      intro c hc g2 o2 m2
      refine vX7_settle_2 ⟨fun y => by rw [nI_leI (by omega) (by omega)] at y; omega, fun _ => X_ofGang2 hp (by rw [o2 q 1 (by omega)]; exact x1) (by rw [o2 q 2 (by omega)]; exact x2) (by omega) (by omega) (IX_l (by omega) (X_ofCouncil2 hp (by rw [uI_o (by omega), o2 q 1 (by omega)]; exact x1) (by rw [uI_o (by omega), o2 q 3 (by omega)]; exact x3) (by omega) (by omega) (IX_l (by omega) ?_)))⟩
      refine row 9 c 0 (by omega) (by omega) (fun g3 o3 m3 => ih (c + 1) (by omega) g3 o3 m3) _ (fun a k z => by rw [uI_o (by omega), uI_o (by omega)]; exact o2 a k z) (fun c' hc' => ?_) ?_ ?_
      · rw [uI_o (by decide), uI_n (by omega), uI_n (by omega), uI_o (by decide)]; exact m2 c' hc'
      · rw [uI_o (by decide), uI_s]; rfl
      · rw [uI_s]; rfl
  exact vX7_settle_0 (first 10 0 (by omega) g (fun _ _ _ => rfl) (fun c' hc' => by omega))
end
