/-! THE TEXT: words of the language, a word and a whole, on both sides -/
def chN (k i : Nat) : Nat := ((txL.getD k "").toList.map Char.toNat).getD i 0
theorem chN_s : ∀ k, k < 25 → ∀ i, i < slen.getD k 0 → chS k i = nI (chN k i) ∧ chN k i < 128 := by decide +kernel
theorem slen8 : ∀ k, k < 25 → 1 ≤ slen.getD k 0 ∧ slen.getD k 0 ≤ 8 := by decide +kernel
def isW (n : Nat) (τ : Nat → Nat) (e k : Nat) : Prop := tK n τ e = 1 ∧ tZ n τ e - tA n τ e = slen.getD k 0 ∧ ∀ i, i < slen.getD k 0 → τ (tA n τ e + i) = chN k i
def isKW (n : Nat) (τ : Nat → Nat) (e : Nat) : Prop := ∃ k, k < 6 ∧ isW n τ e k
abbrev Rz (α : Type) : Type := (Nat × Nat) ⊕ α
noncomputable def waw (n : Nat) (τ : Nat → Nat) (e k lo hi : Nat) : Rz (Nat × Nat) := @ite _ (isW n τ e k) (Classical.propDecidable _) (if tK n τ (tZ n τ e) = 2 then (if lo ≤ tV n τ (tZ n τ e) ∧ tV n τ (tZ n τ e) ≤ hi then .inr (tV n τ (tZ n τ e), tZ n τ (tZ n τ e)) else .inl (4, tA n τ (tZ n τ e))) else .inl (1, tA n τ (tZ n τ e))) (.inl (1, tA n τ e))
/-- what the reader's parts of lines change -/
def WF (g g' : Gi) (j j' : Gl) : Prop := (∀ a q, ¬ (a = 58 ∧ ((4 ≤ q ∧ q ≤ 11) ∨ q = 16 ∨ q = 17)) → g' a q = g a q) ∧ ∀ a q, ¬ (a = 58 ∧ q = 7) → j' a q = j a q
/-- the same of the reference's -/
def MF (g g' : Gi) : Prop := ∀ a q, ¬ (a = 267 ∨ a = 265 ∨ (a = 263 ∧ ((4 ≤ q ∧ q ≤ 10) ∨ q = 13))) → g' a q = g a q
def Fl (num pl : Nat) (g : Gi) : Prop := g 263 13 = nI 1 ∧ g 263 9 = nI num ∧ g 263 10 = nI pl
set_option maxRecDepth 100000 in
theorem w_strX : wordOf 3025 (.methodLink (Rn (mO 33)) 106 yLen) = true ∧ wordOf 3035 (.methodLink (Rn (mO 33)) 111 yChr) = true ∧ wordOf 6099 (.methodLink (Rn (mO 154)) 99 yLen) = true ∧ wordOf 6100 (.methodLink (Rn (mO 154)) 105 yChr) = true := by decide +kernel
set_option maxRecDepth 100000 in
theorem d_strX : decode (mB 33) 18 = .ok (.invokevirtual 106, 3) ∧ decode (mB 33) 30 = .ok (.invokevirtual 106, 3) ∧ decode (mB 33) 62 = .ok (.invokevirtual 111, 3) ∧ decode (mB 154) 20 = .ok (.invokevirtual 99, 3) ∧ decode (mB 154) 52 = .ok (.invokevirtual 105, 3) := by decide +kernel
section
variable {n e d k : Nat} {τ : Nat → Nat} {r : Rr} {g g' g2 : Gi} {j j' j2 : Gl} {K : Int32 → Rr → Gi → Gl → Prop}
theorem WF.rf : WF g g j j := ⟨fun _ _ _ => rfl, fun _ _ _ => rfl⟩
theorem WF.tr (h : WF g g' j j') (h' : WF g' g2 j' j2) : WF g g2 j j2 := ⟨fun a q z => (h'.1 a q z).trans (h.1 a q z), fun a q z => (h'.2 a q z).trans (h.2 a q z)⟩
theorem StF.wf (h : StF g g' j j') : WF g g' j j' := ⟨fun a q z => h.1 a q (by omega), h.2⟩
/-- the same where nothing was wrong -/
def WS (g g' : Gi) (j j' : Gl) : Prop := (∀ a q, ¬ (a = 58 ∧ (4 ≤ q ∧ q ≤ 11)) → g' a q = g a q) ∧ ∀ a q, ¬ (a = 58 ∧ q = 7) → j' a q = j a q
theorem WS.wf (h : WS g g' j j') : WF g g' j j' := ⟨fun a q z => h.1 a q (by omega), h.2⟩
theorem StF.ws (h : StF g g' j j') : WS g g' j j' := ⟨fun a q z => h.1 a q (by omega), h.2⟩
theorem MF.rf : MF g g := fun _ _ _ => rfl
def MZ (g g' : Gi) : Prop := ∀ a q, ¬ (a = 265 ∨ (a = 263 ∧ ((4 ≤ q ∧ q ≤ 10) ∨ q = 13))) → g' a q = g a q
def MH (g g' : Gi) : Prop := ∀ a q, ¬ (a = 267 ∨ a = 265 ∨ (a = 263 ∧ (4 ≤ q ∧ q ≤ 8))) → g' a q = g a q
theorem MH.mf (h : MH g g') : MF g g' := fun a q z => h a q (by omega)
theorem MH.tr (h : MH g g') (h' : MH g' g2) : MH g g2 := fun a q z => (h' a q z).trans (h a q z)
theorem PsF.mh (h : PsF g g') : MH g g' := fun a q z => h a q (by omega)
theorem MZ.mf (h : MZ g g') : MF g g' := fun a q z => h a q (by omega)
theorem MZ.tr (h : MZ g g') (h' : MZ g' g2) : MZ g g2 := fun a q z => (h' a q z).trans (h a q z)
theorem PsF.mz (h : PsF g g') : MZ g g' := fun a q z => h a q (by omega)
theorem fl_mz {num pl : Nat} (h : ∀ a q, ¬ (a = 263 ∧ (q = 9 ∨ q = 10 ∨ q = 13)) → g' a q = g a q) : MZ g g' := fun a q z => h a q (by omega)
theorem MF.tr (h : MF g g') (h' : MF g' g2) : MF g g2 := fun a q z => (h' a q z).trans (h a q z)
theorem PsF.mf (h : PsF g g') : MF g g' := fun a q z => h a q (by omega)
theorem X_is (hk : k < 25) (hR : RdX n τ e g j) (h1 : isW n τ e k → K (nI 1) r g j) (h0 : ¬ isW n τ e k → K (nI 0) r g j) : Cm (d + 4) 33 [.ref 58, .float (UInt32.ofNat k)] r g j (rkI K) := by
  obtain ⟨⟨hn, ht, f1⟩, he, f5, f4, f6, f7, f8⟩ := hR
  have hz := tZ_b (τ := τ) he
  have hl8 := slen8 k hk
  have k4 := tK4 (n := n) (τ := τ) (e := e)
  refine vX5_is_0 ?_
  rw [f4, nI_eq (by omega) (by decide)]
  refine ⟨fun hk1 => ?_, fun z => ⟨bo0, h0 (fun w => z w.1)⟩⟩
  obtain ⟨a1, a2, a3⟩ := tK1 he hk1
  refine G_len (d := d + 2) d_strX.1 w_strX.1 hk (Nat.le_of_ble_eq_true rfl) (vX5_is_21 ?_)
  rw [f6 (by omega), f5, pk_sub hz.1, nI_eq (by omega) (by omega)]
  refine ⟨fun hlen => ?_, fun z => ⟨bo0, h0 (fun w => z w.2.1)⟩⟩
  have loop : ∀ q i, i + q = slen.getD k 0 → (∀ i', i' < i → τ (tA n τ e + i') = chN k i') → G (d + 4) 33 28 [(0, .ref 58), (1, .float (UInt32.ofNat k)), (2, .int (nI i))] [] r g j (rkI K) := by
    intro q
    induction q with
    | zero =>
      intro i hi hp
      have : i = slen.getD k 0 := by omega
      subst this
      exact vX5_is_28 (G_len (d := d + 2) d_strX.2.1 w_strX.1 hk (Nat.le_of_ble_eq_true rfl) (vX5_is_33 ⟨fun _ => ⟨bo1, h1 ⟨hk1, hlen, hp⟩⟩, fun z => absurd (Int32.le_refl _) z⟩))
    | succ q ih =>
      intro i hi hp
      have hin : tA n τ e + i < n := by omega
      have tb := ht _ hin
      have hc := chN_s k hk i (by omega)
      refine vX5_is_28 (G_len (d := d + 2) d_strX.2.1 w_strX.1 hk (Nat.le_of_ble_eq_true rfl) (vX5_is_33 ⟨fun z => absurd z (nI_ge (by omega) (by omega)), fun _ => ?_⟩))
      rw [f1, f5, nI_add]
      refine ⟨fun z => absurd z (nI_ge hin (by omega)), fun _ => IX_l (by omega) ?_⟩
      refine G_chr (d := d) d_strX.2.2.1 w_strX.2.1 hk (q := i) rfl (by omega) (Nat.le_of_ble_eq_true rfl) (vX5_is_65 ?_)
      rw [tb.2, hc.1, sb_e tb.1 hc.2]
      refine ⟨fun z => ?_, fun z => ⟨bo0, h0 (fun w => z (w.2.2 i (by omega)))⟩⟩
      rw [nI_add]
      refine ih (i + 1) (by omega) (fun i' hi' => ?_)
      by_cases c : i' = i
      · subst c; exact z
      · exact hp i' (by omega)
  exact loop (slen.getD k 0) 0 (by omega) (fun i' z => by omega)
theorem mK2 {k : Nat} (h : k ≤ 4) : mK k = 2 ↔ k = 1 := by
  rcases (show k = 0 ∨ k = 1 ∨ k = 2 ∨ k = 3 ∨ k = 4 by omega) with rfl | rfl | rfl | rfl | rfl <;> decide
theorem mK3 {k : Nat} (h : k ≤ 4) : mK k = 3 ↔ k = 2 := by
  rcases (show k = 0 ∨ k = 1 ∨ k = 2 ∨ k = 3 ∨ k = 4 by omega) with rfl | rfl | rfl | rfl | rfl <;> decide
theorem mK59 {k : Nat} (h : k ≤ 4) : mK k = 59 ↔ k = 3 := by
  rcases (show k = 0 ∨ k = 1 ∨ k = 2 ∨ k = 3 ∨ k = 4 by omega) with rfl | rfl | rfl | rfl | rfl <;> decide
theorem mK0 {k : Nat} (h : k ≤ 4) : mK k = 0 ↔ k = 0 := by
  rcases (show k = 0 ∨ k = 1 ∨ k = 2 ∨ k = 3 ∨ k = 4 by omega) with rfl | rfl | rfl | rfl | rfl <;> decide
theorem mKb {k : Nat} (h : k ≤ 4) : mK k ≤ 59 := by
  rcases (show k = 0 ∨ k = 1 ∨ k = 2 ∨ k = 3 ∨ k = 4 by omega) with rfl | rfl | rfl | rfl | rfl <;> decide
theorem M_isWord (hk : k < 25) (hR : RdM n τ e g) (hf : g 263 13 = nI 0) (h1 : isW n τ e k → K (nI 1) r g j) (h0 : ¬ isW n τ e k → K (nI 0) r g j) : Cm (d + 4) 154 [.ref 263, .float (UInt32.ofNat k)] r g j (rkI K) := by
  obtain ⟨⟨hn, ht, f3⟩, he, f4, f5, f6, f8, f7⟩ := hR
  have hz := tZ_b (τ := τ) he
  have hl8 := slen8 k hk
  have k4 := tK4 (n := n) (τ := τ) (e := e)
  have kb := mKb k4
  refine vX10_isWord_0 ⟨fun _ => ?_, fun z => absurd (by rw [hf]; exact n00) z⟩
  rw [f6, nI_eq (by omega) (by decide), mK2 k4]
  refine ⟨fun hk1 => ?_, fun z => ⟨bo0, h0 (fun w => z w.1)⟩⟩
  obtain ⟨a1, a2, a3⟩ := tK1 he hk1
  obtain ⟨g8, gL⟩ := f8 hk1
  refine G_len (d := d + 2) d_strX.2.2.2.1 w_strX.2.2.1 hk (Nat.le_of_ble_eq_true rfl) (vX10_isWord_23 ?_)
  rw [g8, nI_eq (by omega) (by omega)]
  refine ⟨fun hlen => ?_, fun z => ⟨bo0, h0 (fun w => z w.2.1)⟩⟩
  have loop : ∀ q i x2, i + q = slen.getD k 0 → ((x2 = nI 1 ∧ ∀ i', i' < i → τ (tA n τ e + i') = chN k i') ∨ (x2 = nI 0 ∧ ¬ isW n τ e k)) → G (d + 4) 154 32 [(0, .ref 263), (1, .float (UInt32.ofNat k)), (2, .int x2), (3, .int (nI i))] [] r g j (rkI K) := by
    intro q
    induction q with
    | zero =>
      intro i x2 hi hp
      have : i = slen.getD k 0 := by omega
      subst this
      refine vX10_isWord_32 ?_
      rw [g8, hlen]
      refine ⟨fun _ => ?_, fun z => absurd (Int32.le_refl _) z⟩
      rcases hp with ⟨rfl, hp⟩ | ⟨rfl, hp⟩
      · exact ⟨bo1, h1 ⟨hk1, hlen, hp⟩⟩
      · exact ⟨bo0, h0 hp⟩
    | succ q ih =>
      intro i x2 hi hp
      have tb := ht (tA n τ e + i) (by omega)
      have hc := chN_s k hk i (by omega)
      refine vX10_isWord_32 ?_
      rw [g8, hlen]
      refine ⟨fun z => absurd z (nI_ge (by omega) (by omega)), fun _ => ?_⟩
      have no : ¬ isW n τ e k → G (d + 4) 154 62 [(0, .ref 263), (1, .float (UInt32.ofNat k)), (3, .int (nI i))] [] r g j (rkI K) := by
        intro hw
        refine vX10_isWord_62 (vX10_isWord_63 ?_)
        rw [nI_add]
        exact ih (i + 1) (nI 0) (by omega) (Or.inr ⟨rfl, hw⟩)
      rcases hp with ⟨rfl, hp⟩ | ⟨rfl, hp⟩
      · refine ⟨fun z => absurd z n10, fun _ => IX_l (by omega) ?_⟩
        refine G_chr (d := d) d_strX.2.2.2.2 w_strX.2.2.2 hk (q := i) rfl (by omega) (Nat.le_of_ble_eq_true rfl) (vX10_isWord_55 ?_)
        rw [gL i (by omega), hc.1, nI_eq (by omega) (by omega)]
        refine ⟨fun z => vX10_isWord_63 ?_, fun z => no (fun w => z (w.2.2 i (by omega)))⟩
        rw [nI_add]
        refine ih (i + 1) (nI 1) (by omega) (Or.inl ⟨rfl, fun i' hi' => ?_⟩)
        by_cases c : i' = i
        · subst c; exact z
        · exact hp i' (by omega)
      · exact ⟨fun _ => no hp, fun z => absurd n00 z⟩
  exact loop (slen.getD k 0) 0 (nI 1) (by omega) (Or.inl ⟨rfl, fun i' z => by omega⟩)
theorem M_isWord_f (hf : g 263 13 = nI 1) (h0 : K (nI 0) r g j) {k : UInt32} : Cm (d + 1) 154 [.ref 263, .float k] r g j (rkI K) := vX10_isWord_0 ⟨fun z => absurd (by rw [hf] at z; exact z) n10, fun _ => ⟨bo0, h0⟩⟩
theorem X_beginsLine (hR : RdX n τ e g j) (h1 : isKW n τ e → K (nI 1) r g j) (h0 : ¬ isKW n τ e → K (nI 0) r g j) : Cm (d + 5) 36 [.ref 58] r g j (rkI K) := by
  have yes : ∀ k, k < 6 → isW n τ e k → ((nI 1 = 0 → False) ∧ (((nI 1) = 0 ∨ (nI 1) = 1) ∧ K (nI 1) r g j)) := fun k hk w => ⟨fun z => n10 z, bo1, h1 ⟨k, hk, w⟩⟩
  refine vX5_beginsLine_0 (X_is (by decide) hR (fun w => ⟨fun z => absurd z n10, fun _ => (yes 0 (by decide) w).2⟩) (fun w0 => ⟨fun _ => ?_, fun z => absurd n00 z⟩))
  refine X_is (by decide) hR (fun w => ⟨fun z => absurd z n10, fun _ => (yes 1 (by decide) w).2⟩) (fun w1 => ⟨fun _ => ?_, fun z => absurd n00 z⟩)
  refine X_is (by decide) hR (fun w => ⟨fun z => absurd z n10, fun _ => (yes 2 (by decide) w).2⟩) (fun w2 => ⟨fun _ => ?_, fun z => absurd n00 z⟩)
  refine X_is (by decide) hR (fun w => ⟨fun z => absurd z n10, fun _ => (yes 3 (by decide) w).2⟩) (fun w3 => ⟨fun _ => ?_, fun z => absurd n00 z⟩)
  refine X_is (by decide) hR (fun w => ⟨fun z => absurd z n10, fun _ => (yes 4 (by decide) w).2⟩) (fun w4 => ⟨fun _ => ?_, fun z => absurd n00 z⟩)
  refine X_is (by decide) hR (fun w => ⟨fun z => absurd z n10, fun _ => (yes 5 (by decide) w).2⟩) (fun w5 => ⟨fun _ => ⟨bo0, h0 ?_⟩, fun z => absurd n00 z⟩)
  rintro ⟨k, hk, w⟩
  rcases (show k = 0 ∨ k = 1 ∨ k = 2 ∨ k = 3 ∨ k = 4 ∨ k = 5 by omega) with rfl | rfl | rfl | rfl | rfl | rfl
  · exact w0 w
  · exact w1 w
  · exact w2 w
  · exact w3 w
  · exact w4 w
  · exact w5 w
theorem M_wrong {K : Rr → Gi → Gl → Prop} {num pl : Nat} (hf : g 263 13 = nI 0) (h : ∀ g', Fl num pl g' → (∀ a q, ¬ (a = 263 ∧ (q = 9 ∨ q = 10 ∨ q = 13)) → g' a q = g a q) → K r g' j) : Cm d 153 [.ref 263, .int (nI num), .int (nI pl)] r g j (rkV K) := by
  refine vX10_wrong_0 ⟨fun _ => ⟨bo1, h _ ⟨?_, ?_, uI_s⟩ (fun a q z => ?_)⟩, fun z => absurd (by rw [hf]; exact n00) z⟩
  · rw [uI_n (by decide), uI_n (by decide), uI_s]
  · rw [uI_n (by decide), uI_s]
  · rw [uI_d (by omega), uI_d (by omega), uI_d (by omega)]
theorem M_wrong_f {K : Rr → Gi → Gl → Prop} {x y : Int32} (hf : g 263 13 = nI 1) (h : K r g j) : Cm d 153 [.ref 263, .int x, .int y] r g j (rkV K) := vX10_wrong_0 ⟨fun z => absurd (by rw [hf] at z; exact z) n10, fun _ => h⟩
/-- a name must stand here -/
theorem M_mustName {K : Rr → Gi → Gl → Prop} (hR : RdM n τ e g) (hf : g 263 13 = nI 0) (h1 : tK n τ e = 1 → ¬ isKW n τ e → K r g j) (h0 : ¬ (tK n τ e = 1 ∧ ¬ isKW n τ e) → ∀ g', Fl 1 (tA n τ e) g' → (∀ a q, ¬ (a = 263 ∧ (q = 9 ∨ q = 10 ∨ q = 13)) → g' a q = g a q) → K r g' j) : Cm (d + 5) 157 [.ref 263] r g j (rkV K) := by
  have k4 := tK4 (n := n) (τ := τ) (e := e)
  have kb := mKb k4
  have no : ¬ (tK n τ e = 1 ∧ ¬ isKW n τ e) → G (d + 5) 157 62 [(0, .ref 263)] [] r g j (rkV K) := by
    intro z
    refine vX10_mustName_62 ?_
    rw [hR.2.2.1]
    exact M_wrong hf (fun g' a b => h0 z g' a b)
  have yes : ∀ k, k < 6 → isW n τ e k → G (d + 5) 157 62 [(0, .ref 263)] [] r g j (rkV K) := fun k hk w => no (fun z => z.2 ⟨k, hk, w⟩)
  refine vX10_mustName_0 ?_
  rw [hR.2.2.2.2.1, nI_eq (by omega) (by decide), mK2 k4]
  refine ⟨fun k1 => ?_, fun z => no (fun y => z y.1)⟩
  refine M_isWord (by decide) hR hf (fun w => ⟨fun z => absurd z n10, fun _ => yes 0 (by decide) w⟩) (fun w0 => ⟨fun _ => ?_, fun z => absurd n00 z⟩)
  refine M_isWord (by decide) hR hf (fun w => ⟨fun z => absurd z n10, fun _ => yes 1 (by decide) w⟩) (fun w1 => ⟨fun _ => ?_, fun z => absurd n00 z⟩)
  refine M_isWord (by decide) hR hf (fun w => ⟨fun z => absurd z n10, fun _ => yes 2 (by decide) w⟩) (fun w2 => ⟨fun _ => ?_, fun z => absurd n00 z⟩)
  refine M_isWord (by decide) hR hf (fun w => ⟨fun z => absurd z n10, fun _ => yes 3 (by decide) w⟩) (fun w3 => ⟨fun _ => ?_, fun z => absurd n00 z⟩)
  refine M_isWord (by decide) hR hf (fun w => ⟨fun z => absurd z n10, fun _ => yes 4 (by decide) w⟩) (fun w4 => ⟨fun _ => ?_, fun z => absurd n00 z⟩)
  refine M_isWord (by decide) hR hf (fun w => ⟨fun z => absurd z n10, fun _ => yes 5 (by decide) w⟩) (fun w5 => ⟨fun _ => h1 k1 ?_, fun z => absurd n00 z⟩)
  rintro ⟨k, hk, w⟩
  rcases (show k = 0 ∨ k = 1 ∨ k = 2 ∨ k = 3 ∨ k = 4 ∨ k = 5 by omega) with rfl | rfl | rfl | rfl | rfl | rfl
  · exact w0 w
  · exact w1 w
  · exact w2 w
  · exact w3 w
  · exact w4 w
  · exact w5 w
/-- a fault of the reader -/
theorem X_wrong {num : Nat} (hR : RdX n τ e g j) (h : ∀ g', g' 58 16 = nI num → g' 58 17 = nI (tA n τ e) → WF g g' j j → K (nI 0) r g' j) : Cm d 29 [.ref 58, .int (nI num)] r g j (rkI K) := by
  refine vX5_wrong_0 ⟨bo0, ?_⟩
  rw [hR.2.2.1]
  exact h _ (by rw [uI_n (by decide), uI_s]) uI_s ⟨fun a q z => by rw [uI_d (by omega), uI_d (by omega)], fun _ _ _ => rfl⟩
theorem X_wrongBehind {num pl : Nat} (h9 : g 58 9 = nI pl) (h : ∀ g', g' 58 16 = nI num → g' 58 17 = nI pl → WF g g' j j → K (nI 0) r g' j) : Cm d 30 [.ref 58, .int (nI num)] r g j (rkI K) := by
  refine vX5_wrongBehind_0 ⟨bo0, ?_⟩
  rw [h9]
  exact h _ (by rw [uI_n (by decide), uI_s]) uI_s ⟨fun a q z => by rw [uI_d (by omega), uI_d (by omega)], fun _ _ _ => rfl⟩
/-- a step behind a token that is one -/
theorem X_next {K : Rr → Gi → Gl → Prop} (hR : RdX n τ e g j) (hk : tK n τ e ≠ 4) (h : ∀ g' j', RdX n τ (tZ n τ e) g' j' → g' 58 9 = nI (tA n τ e) → StF g g' j j' → K r g' j') : Cm (d + 1) 31 [.ref 58] r g j (rkV K) := by
  have hz := tZ_b (τ := τ) hR.2.1
  exact Rd_step hR.1 hz.2 (hR.2.2.2.2.1 hk) (fun g' j' a b c => h g' j' a (by rw [b]; exact hR.2.2.1) c)
theorem M_next {K : Rr → Gi → Gl → Prop} (hR : RdM n τ e g) (h : ∀ g', RdM n τ (tZ n τ e) g' → PsF g g' → K r g' j) : Cm (d + 1) 152 [.ref 263] r g j (rkV K) := by
  have hz := tZ_b (τ := τ) hR.2.1
  exact M_pass hR.1 hz.2 hR.2.2.2.1 h
theorem X_waw {lo hi : Nat} (hk : k < 25) (hlo : lo < 2000) (hhi : hi < 2000) (hR : RdX n τ e g j) (h1 : ∀ v e' g' j', waw n τ e k lo hi = .inr (v, e') → RdX n τ e' g' j' → g' 58 10 = nI v → g' 58 9 = nI (tA n τ (tZ n τ e)) → WS g g' j j' → K (nI 1) r g' j') (h0 : ∀ num pl g' j', waw n τ e k lo hi = .inl (num, pl) → g' 58 16 = nI num → g' 58 17 = nI pl → WF g g' j j' → K (nI 0) r g' j') : Cm (d + 5) 35 [.ref 58, .float (UInt32.ofNat k), .int (nI lo), .int (nI hi)] r g j (rkI K) := by
  refine vX5_wordAndWhole_0 (X_is hk hR (fun w => ⟨fun z => absurd z n10, fun _ => ?_⟩) (fun w => ⟨fun _ => ?_, fun z => absurd n00 z⟩))
  · refine X_next hR (by rw [w.1]; decide) fun g1 j1 R1 a9 f1 => ?_
    have k4 := tK4 (n := n) (τ := τ) (e := tZ n τ e)
    rw [R1.2.2.2.1, nI_eq (by omega) (by decide)]
    refine ⟨fun k2 => ?_, fun k2 => X_wrong R1 (fun g' b1 b2 b3 => ⟨bo0, h0 1 (tA n τ (tZ n τ e)) g' j1 ?_ b1 b2 (f1.wf.tr b3)⟩)⟩
    · have hv := tV_b R1.2.1 k2
      have e8 := R1.2.2.2.2.2.2 k2
      have bad : ¬ (lo ≤ tV n τ (tZ n τ e) ∧ tV n τ (tZ n τ e) ≤ hi) → G (d + 5) 35 48 [(0, .ref 58)] [] r g1 j1 (rkI K) := by
        intro z
        refine vX5_wordAndWhole_48 (X_wrong R1 (fun g' b1 b2 b3 => ⟨bo0, h0 4 (tA n τ (tZ n τ e)) g' j1 ?_ b1 b2 (f1.wf.tr b3)⟩))
        unfold waw
        rw [if_pos w, if_pos k2, if_neg z]
      rw [e8, nI_ltI (by omega) (by omega), nI_leI (by omega) (by omega)]
      refine ⟨fun z => bad (by omega), fun z => ⟨fun z2 => ?_, fun z2 => bad (by omega)⟩⟩
      have R2 : RdX n τ (tZ n τ e) (uI g1 58 10 (nI (tV n τ (tZ n τ e)))) j1 := by
        obtain ⟨⟨b1, b2, b3⟩, b4, b5, b6, b7, b8, b9⟩ := R1
        exact ⟨⟨b1, fun i hi => by rw [uI_o (by decide)]; exact b2 i hi, by rw [uI_n (by decide)]; exact b3⟩, b4, by rw [uI_n (by decide)]; exact b5, by rw [uI_n (by decide)]; exact b6, fun z => by rw [uI_n (by decide)]; exact b7 z, b8, fun z => by rw [uI_n (by decide)]; exact b9 z⟩
      refine X_next R2 (by rw [k2]; decide) fun g' j' R' a9' f' => ⟨bo1, h1 (tV n τ (tZ n τ e)) (tZ n τ (tZ n τ e)) g' j' ?_ R' (by rw [f'.1 58 10 (by omega), uI_s]) a9' ⟨fun a q z => ?_, fun a q z => ?_⟩⟩
      · unfold waw
        rw [if_pos w, if_pos k2, if_pos ⟨by omega, by omega⟩]
      · rw [f'.1 a q (by omega), uI_d (by omega)]; exact f1.1 a q (by omega)
      · rw [f'.2 a q z]; exact f1.2 a q z
    · unfold waw
      rw [if_pos w, if_neg k2]
  · refine X_wrong hR (fun g' b1 b2 b3 => ⟨bo0, h0 1 (tA n τ e) g' j ?_ b1 b2 b3⟩)
    unfold waw
    rw [if_neg w]
theorem X_word (hk : k < 25) (hR : RdX n τ e g j) (h1 : isW n τ e k → ∀ g' j', RdX n τ (tZ n τ e) g' j' → WS g g' j j' → K (nI 1) r g' j') (h0 : ¬ isW n τ e k → ∀ g' j', g' 58 16 = nI 1 → g' 58 17 = nI (tA n τ e) → WF g g' j j' → K (nI 0) r g' j') : Cm (d + 5) 34 [.ref 58, .float (UInt32.ofNat k)] r g j (rkI K) := by
  refine vX5_word_0 (X_is hk hR (fun w => ⟨fun z => absurd z n10, fun _ => X_next hR (by rw [w.1]; decide) fun g1 j1 R1 a9 f1 => ⟨bo1, h1 w g1 j1 R1 f1.ws⟩⟩) (fun w => ⟨fun _ => X_wrong hR (fun g' b1 b2 b3 => ⟨bo0, h0 w g' j b1 b2 b3⟩), fun z => absurd n00 z⟩))
theorem M_takesWord (hk : k < 25) (hR : RdM n τ e g) (hf : g 263 13 = nI 0) (h1 : isW n τ e k → ∀ g', RdM n τ (tZ n τ e) g' → PsF g g' → K (nI 1) r g' j) (h0 : ¬ isW n τ e k → K (nI 0) r g j) : Cm (d + 5) 155 [.ref 263, .float (UInt32.ofNat k)] r g j (rkI K) :=
  vX10_takesWord_0 (M_isWord hk hR hf (fun w => ⟨fun z => absurd z n10, fun _ => M_next hR fun g1 R1 f1 => ⟨bo1, h1 w g1 R1 f1⟩⟩) (fun w => ⟨fun _ => ⟨bo0, h0 w⟩, fun z => absurd n00 z⟩))
theorem M_must {K : Rr → Gi → Gl → Prop} (hk : k < 25) (hR : RdM n τ e g) (hf : g 263 13 = nI 0) (h1 : isW n τ e k → ∀ g', RdM n τ (tZ n τ e) g' → PsF g g' → K r g' j) (h0 : ¬ isW n τ e k → ∀ g', Fl 1 (tA n τ e) g' → (∀ a q, ¬ (a = 263 ∧ (q = 9 ∨ q = 10 ∨ q = 13)) → g' a q = g a q) → K r g' j) : Cm (d + 6) 156 [.ref 263, .float (UInt32.ofNat k)] r g j (rkV K) := by
  refine vX10_must_0 ⟨fun _ => M_takesWord hk hR hf (fun w g1 R1 f1 => ⟨fun z => absurd z n10, fun _ => h1 w g1 R1 f1⟩) (fun w => ⟨fun _ => ?_, fun z => absurd n00 z⟩), fun z => absurd (by rw [hf]; exact n00) z⟩
  rw [hR.2.2.1]
  exact M_wrong hf (h0 w)
theorem M_must_f {K : Rr → Gi → Gl → Prop} {x : UInt32} (hf : g 263 13 = nI 1) (h : K r g j) : Cm (d + 1) 156 [.ref 263, .float x] r g j (rkV K) := vX10_must_0 ⟨fun z => absurd (by rw [hf] at z; exact z) n10, fun _ => h⟩
theorem sM_inL {lo hi v : Nat} (hv : v < 2 ^ 30) (hlo : lo < 2 ^ 30) (hhi : hi < 2 ^ 30) (h : K (nI (if lo ≤ v ∧ v ≤ hi then 1 else 0)) r g j) : Cm d 144 [.int (nI v), .int (nI lo), .int (nI hi)] r g j (rkI K) := by
  refine vX10_in_0 ?_
  rw [nI_ltI (by omega) (by omega), nI_ltI (by omega) (by omega)]
  refine ⟨fun z => ⟨bo0, ?_⟩, fun z => ⟨fun z2 => ⟨bo0, ?_⟩, fun z2 => ⟨bo1, ?_⟩⟩⟩
  · rw [if_neg (by omega)] at h; exact h
  · rw [if_neg (by omega)] at h; exact h
  · rw [if_pos ⟨by omega, by omega⟩] at h; exact h
theorem M_numberHere {lo hi : Nat} (hlo : lo < 2000) (hhi : hi < 2000) (hR : RdM n τ e g) (hf : g 263 13 = nI 0) (h1 : tK n τ e = 2 → lo ≤ tV n τ e ∧ tV n τ e ≤ hi → K (nI (tV n τ e)) r g j) (h4 : tK n τ e = 2 → ¬ (lo ≤ tV n τ e ∧ tV n τ e ≤ hi) → ∀ g', Fl 4 (tA n τ e) g' → (∀ a q, ¬ (a = 263 ∧ (q = 9 ∨ q = 10 ∨ q = 13)) → g' a q = g a q) → K (nI lo) r g' j) (h0 : ¬ tK n τ e = 2 → ∀ g', Fl 1 (tA n τ e) g' → (∀ a q, ¬ (a = 263 ∧ (q = 9 ∨ q = 10 ∨ q = 13)) → g' a q = g a q) → K (nI lo) r g' j) : Cm (d + 1) 162 [.ref 263, .int (nI lo), .int (nI hi)] r g j (rkI K) := by
  have k4 := tK4 (n := n) (τ := τ) (e := e)
  have kb := mKb k4
  have e0 : g 263 13 = 0 := by rw [hf]; exact n00
  refine vX10_numberHere_0 ⟨fun _ => ?_, fun z => absurd e0 z⟩
  rw [hR.2.2.2.2.1, nI_eq (by omega) (by decide), mK3 k4]
  refine ⟨fun k2 => ?_, fun k2 => ?_⟩
  · have hv := tV_b hR.2.1 k2
    rw [hR.2.2.2.2.2.2 k2]
    refine sM_inL (by omega) (by omega) (by omega) ?_
    by_cases c : lo ≤ tV n τ e ∧ tV n τ e ≤ hi
    · rw [if_pos c]
      refine ⟨fun z => absurd z n10, fun _ => vX10_numberHere_50 ⟨fun _ => ?_, fun z => absurd e0 z⟩⟩
      rw [hR.2.2.2.2.2.2 k2]
      exact h1 k2 c
    · rw [if_neg c]
      refine ⟨fun _ => ?_, fun z => absurd n00 z⟩
      rw [hR.2.2.1]
      exact M_wrong hf fun g' a b => vX10_numberHere_50 ⟨fun z => absurd (by rw [a.1] at z; exact z) n10, fun _ => h4 k2 c g' a b⟩
  · rw [hR.2.2.1]
    exact M_wrong hf fun g' a b => vX10_numberHere_50 ⟨fun z => absurd (by rw [a.1] at z; exact z) n10, fun _ => h0 k2 g' a b⟩
theorem M_numberHere_f {x y : Int32} (hf : g 263 13 = nI 1) (h : K x r g j) : Cm (d + 1) 162 [.ref 263, .int x, .int y] r g j (rkI K) := vX10_numberHere_0 ⟨fun z => absurd (by rw [hf] at z; exact z) n10, fun _ => h⟩
theorem M_number_f {x y : Int32} (hf : g 263 13 = nI 1) (h : K x r g j) : Cm (d + 2) 163 [.ref 263, .int x, .int y] r g j (rkI K) := vX10_number_0 (M_numberHere_f hf ⟨fun z => absurd (by rw [hf] at z; exact z) n10, fun _ => h⟩)
theorem M_after_f {w : UInt32} {x y : Int32} (hf : g 263 13 = nI 1) (h : K x r g j) : Cm (d + 3) 164 [.ref 263, .float w, .int x, .int y] r g j (rkI K) := vX10_after_0 (M_must_f hf (M_number_f hf h))
theorem fl_mf {num pl : Nat} (h : ∀ a q, ¬ (a = 263 ∧ (q = 9 ∨ q = 10 ∨ q = 13)) → g' a q = g a q) : MF g g' := fun a q z => h a q (by omega)
theorem M_after {lo hi : Nat} (hk : k < 25) (hlo : lo < 2000) (hhi : hi < 2000) (hR : RdM n τ e g) (hf : g 263 13 = nI 0) (h1 : ∀ v e' g', waw n τ e k lo hi = .inr (v, e') → RdM n τ e' g' → PsF g g' → K (nI v) r g' j) (h0 : ∀ num pl g', waw n τ e k lo hi = .inl (num, pl) → Fl num pl g' → MZ g g' → K (nI lo) r g' j) : Cm (d + 7) 164 [.ref 263, .float (UInt32.ofNat k), .int (nI lo), .int (nI hi)] r g j (rkI K) := by
  refine vX10_after_0 (M_must hk hR hf (fun w g1 R1 f1 => ?_) (fun w g1 a1 b1 => M_number_f (d := d + 4) a1.1 (h0 1 (tA n τ e) g1 ?_ a1 (fl_mz (num := 0) (pl := 0) b1))))
  · have hf1 : g1 263 13 = nI 0 := by rw [f1 263 13 (by omega)]; exact hf
    have e0 : g1 263 13 = 0 := by rw [hf1]; exact n00
    refine vX10_number_0 (M_numberHere (d := d + 4) hlo hhi R1 hf1 (fun k2 c => ⟨fun _ => M_next R1 fun g2 R2 f2 => h1 _ _ g2 ?_ R2 (f1.tr f2), fun z => absurd e0 z⟩) (fun k2 c g2 a2 b2 => ⟨fun z => absurd (by rw [a2.1] at z; exact z) n10, fun _ => h0 4 _ g2 ?_ a2 (f1.mz.tr (fl_mz (num := 0) (pl := 0) b2))⟩) (fun k2 g2 a2 b2 => ⟨fun z => absurd (by rw [a2.1] at z; exact z) n10, fun _ => h0 1 _ g2 ?_ a2 (f1.mz.tr (fl_mz (num := 0) (pl := 0) b2))⟩))
    · unfold waw; rw [if_pos w, if_pos k2, if_pos c]
    · unfold waw; rw [if_pos w, if_pos k2, if_neg c]
    · unfold waw; rw [if_pos w, if_neg k2]
  · unfold waw; rw [if_neg w]
end
