/-! THE TEXT: the reference's line -/
section
variable {d n e k b num pl : Nat} {τ F : Nat → Nat} {r : Rr} {g g' g0 : Gi} {j : Gl}
theorem M_begins {K : Int32 → Rr → Gi → Gl → Prop} {rm : Nat} (hk : k < 25) (hR : RdM n τ e g) (hf : g 263 13 = nI 0) (hW : RW F g) (h8 : F 8 ≤ 1) (hrm : rm ≤ 1)
    (h1 : isW n τ e k → rm = 1 → F 8 = 1 → ∀ g', RdM n τ (tZ n τ e) g' → PsF g g' → K (nI 1) r g' j) (h5 : isW n τ e k → rm = 0 → ∀ g', FM 5 (tA n τ e) g g' → K (nI 1) r g' j) (h6 : isW n τ e k → rm = 1 → F 8 = 0 → ∀ g', FM 6 (tA n τ e) g g' → K (nI 1) r g' j) (h0 : ¬ isW n τ e k → K (nI 0) r g j) : Cm (d + 5) 166 [.ref 263, .float (UInt32.ofNat k), .int (nI rm)] r g j (rkI K) := by
  refine vX10_begins_0 (M_isWord hk hR hf (fun w => ⟨fun y => absurd y n10, fun _ => ⟨fun y => ?_, fun y => vX10_begins_23 (IX_l (by decide) ?_)⟩⟩) (fun w => ⟨fun _ => ⟨bo0, h0 w⟩, fun y => absurd n00 y⟩))
  · have hr : rm = 0 := by
      rcases Nat.lt_or_ge 0 rm with z | z
      · have : rm = 1 := by omega
        subst this; exact absurd y n10
      · omega
    rw [hR.2.2.1]
    refine M_wrong hf fun g1 a c => ?_
    have z : FM 5 (tA n τ e) g g1 := ⟨a, fl_mf (num := 0) (pl := 0) c⟩
    exact vX10_begins_23 (IX_l (by decide) ⟨fun _ => M_wrong_f z.1.1 (vX10_begins_43 ⟨fun y => absurd y z.nz, fun _ => ⟨bo1, h5 w hr g1 z⟩⟩), fun _ => vX10_begins_43 ⟨fun y => absurd y z.nz, fun _ => ⟨bo1, h5 w hr g1 z⟩⟩⟩)
  · have hr : rm = 1 := by
      rcases Nat.lt_or_ge 0 rm with z | z
      · omega
      · have : rm = 0 := by omega
        subst this; exact absurd n00 y
    rw [hW 8 (by decide)]
    refine ⟨fun y => ?_, fun y => vX10_begins_43 ⟨fun _ => M_next hR fun g1 R1 f1 => ⟨bo1, h1 w hr ?_ g1 R1 f1⟩, fun y => absurd (f13 hf) y⟩⟩
    · have hz : F 8 = 0 := by
        have := (nI_eq (a := F 8) (b := 0) (by omega) (by omega)).mp (by rw [n00]; exact y)
        exact this
      rw [hR.2.2.1]
      refine M_wrong hf fun g1 a c => ?_
      have z : FM 6 (tA n τ e) g g1 := ⟨a, fl_mf (num := 0) (pl := 0) c⟩
      exact vX10_begins_43 ⟨fun y => absurd y z.nz, fun _ => ⟨bo1, h6 w hr hz g1 z⟩⟩
    · have : F 8 ≠ 0 := fun z => y (by rw [z]; exact n00)
      omega
theorem ME.ps {Q : Gi → Prop} {L : LR} (h : ME n τ L g Q) (f : PsF g g') : ME n τ L g' Q := ⟨fun e' F' g2 a b c z m => h.1 e' F' g2 a b c z (f.mh.tr m), fun num pl g2 a z => h.2 num pl g2 a ⟨z.1, f.mf.tr z.2⟩⟩
theorem M_readLine {K : Rr → Gi → Gl → Prop} (hR : RdM n τ e g) (hf : g 263 13 = nI 0) (hW : RW F g) (hI : FI b F) (hE : ME n τ (lineL n τ e b F) g (fun g' => K r g' j)) : Cm (d + 10) 167 [.ref 263] r g j (rkV K) := by
  obtain ⟨i0, i1, ib, hB, hN, hU, hL⟩ := hI
  have h8 : F 8 ≤ 1 := by
    rcases ib with z | z
    · rw [i0 z 8]; decide
    · rw [(i1 z).2]; decide
  have b8 : ∀ v, F 8 = v → b = v := fun v hv => by
    rcases ib with z | z
    · have := i0 z 8; omega
    · have := (i1 z).2; omega
  have rb := hB.1
  unfold lineL at hE
  refine vX10_readLine_0 (M_isWord (d := d + 5) (by decide) hR hf (fun w0 => ⟨fun y => absurd y n10, fun _ => ?_⟩) (fun w0 => ⟨fun _ => IX_l (by decide) ?_, fun y => absurd n00 y⟩))
  · rw [if_pos ⟨0, by decide, w0⟩, if_pos w0] at hE
    rcases ib with z | z
    · rw [if_pos z] at hE
      exact M_portLine (d := d + 1) hR hf hW (i0 z 8) hE
    · rw [if_neg (by omega)] at hE
      refine vX10_portLine_0 (IX_l (by decide) ?_)
      rw [hW 8 (by decide), (i1 z).2]
      refine ⟨fun _ => ?_, fun y => absurd rfl y⟩
      rw [hR.2.2.1]
      refine M_wrong hf fun g1 a c => ?_
      have z : FM 3 (tA n τ e) g g1 := ⟨a, fl_mf (num := 0) (pl := 0) c⟩
      exact vX10_portLine_20 ⟨fun y => absurd y z.nz, fun _ => hE.2 _ _ _ rfl z⟩
  · have st116 : ¬ isW n τ e 1 → ¬ isW n τ e 2 → ¬ isW n τ e 3 → ∀ rm, rm = (if F 7 < 8 then 1 else 0) → G (d + 10) 167 116 [(0, .ref 263)] [.int (nI rm), .float (UInt32.ofNat 4), .ref 263] r g j (rkV K) := by
      intro w1 w2 w3 rm hrm
      refine vX10_readLine_116 (M_begins (d := d + 4) (by decide) hR hf hW h8 (by split at hrm <;> omega) (fun w a c g1 R1 f1 => ⟨fun y => absurd y n10, fun _ => ?_⟩) (fun w a g1 z => ⟨fun y => absurd y n10, fun _ => vX10_roadLine_0 ⟨fun y => absurd y z.nz, fun _ => ?_⟩⟩) (fun w a c g1 z => ⟨fun y => absurd y n10, fun _ => vX10_roadLine_0 ⟨fun y => absurd y z.nz, fun _ => ?_⟩⟩) (fun w4 => ⟨fun _ => ?_, fun y => absurd n00 y⟩))
      · have bb := b8 1 c
        have c7 : F 7 < 8 := by split at hrm <;> omega
        rw [if_pos ⟨4, by decide, w⟩, if_neg w0, if_neg (by omega), if_neg w1, if_neg w2, if_neg w3, if_pos w, if_pos c7] at hE
        exact M_roadLine (d := d + 1) R1 (by rw [f1 263 13 (by omega)]; exact hf) (hW.ps f1) hN hL hB c7 (hE.ps f1)
      · have c7 : ¬ F 7 < 8 := by split at hrm <;> omega
        have bb : ¬ b = 0 := fun z => by have := i0 z 7; omega
        rw [if_pos ⟨4, by decide, w⟩, if_neg w0, if_neg bb, if_neg w1, if_neg w2, if_neg w3, if_pos w, if_neg c7] at hE
        exact hE.2 _ _ _ rfl z
      · rw [if_pos ⟨4, by decide, w⟩, if_neg w0, if_pos (b8 0 c)] at hE
        exact hE.2 _ _ _ rfl z
      · refine M_begins (d := d + 4) (by decide) hR hf hW h8 (Nat.le_refl 1) (fun w a c g1 R1 f1 => ⟨fun y => absurd y n10, fun _ => ?_⟩) (fun w a g1 z => by omega) (fun w a c g1 z => ⟨fun y => absurd y n10, fun _ => vX10_openedLine_0 ⟨fun y => absurd y z.nz, fun _ => ?_⟩⟩) (fun w5 => ⟨fun _ => ?_, fun y => absurd n00 y⟩)
        · have bb := b8 1 c
          rw [if_pos ⟨5, by decide, w⟩, if_neg w0, if_neg (by omega), if_neg w1, if_neg w2, if_neg w3, if_neg w4] at hE
          exact M_openedLine (d := d + 1) R1 (by rw [f1 263 13 (by omega)]; exact hf) (hW.ps f1) hN hL hB (hE.ps f1)
        · rw [if_pos ⟨5, by decide, w⟩, if_neg w0, if_pos (b8 0 c)] at hE
          exact hE.2 _ _ _ rfl z
        · have nk : ¬ isKW n τ e := by
            rintro ⟨k, hk, w⟩
            have : k = 0 ∨ k = 1 ∨ k = 2 ∨ k = 3 ∨ k = 4 ∨ k = 5 := by omega
            rcases this with rfl | rfl | rfl | rfl | rfl | rfl
            · exact w0 w
            · exact w1 w
            · exact w2 w
            · exact w3 w
            · exact w4 w
            · exact w5 w
          rw [if_neg nk] at hE
          rw [hR.2.2.1]
          exact M_wrong hf fun g1 a c => hE.2 _ _ _ rfl ⟨a, fl_mf (num := 0) (pl := 0) c⟩
    have st83 : ¬ isW n τ e 1 → ¬ isW n τ e 2 → ∀ rm, rm = (if F 6 < 5 then 1 else 0) → G (d + 10) 167 83 [(0, .ref 263)] [.int (nI rm), .float (UInt32.ofNat 3), .ref 263] r g j (rkV K) := by
      intro w1 w2 rm hrm
      refine vX10_readLine_83 (M_begins (d := d + 4) (by decide) hR hf hW h8 (by split at hrm <;> omega) (fun w a c g1 R1 f1 => ⟨fun y => absurd y n10, fun _ => ?_⟩) (fun w a g1 z => ⟨fun y => absurd y n10, fun _ => vX10_townLine_0 ⟨fun y => absurd y z.nz, fun _ => ?_⟩⟩) (fun w a c g1 z => ⟨fun y => absurd y n10, fun _ => vX10_townLine_0 ⟨fun y => absurd y z.nz, fun _ => ?_⟩⟩) (fun w3 => ⟨fun _ => IX_l (by decide) ?_, fun y => absurd n00 y⟩))
      · have bb := b8 1 c
        have c7 : F 6 < 5 := by split at hrm <;> omega
        rw [if_pos ⟨3, by decide, w⟩, if_neg w0, if_neg (by omega), if_neg w1, if_neg w2, if_pos w, if_pos c7] at hE
        exact M_townLine (d := d + 1) R1 (by rw [f1 263 13 (by omega)]; exact hf) (hW.ps f1) hL c7 (hE.ps f1)
      · have c7 : ¬ F 6 < 5 := by split at hrm <;> omega
        have bb : ¬ b = 0 := fun z => by have := i0 z 6; omega
        rw [if_pos ⟨3, by decide, w⟩, if_neg w0, if_neg bb, if_neg w1, if_neg w2, if_pos w, if_neg c7] at hE
        exact hE.2 _ _ _ rfl z
      · rw [if_pos ⟨3, by decide, w⟩, if_neg w0, if_pos (b8 0 c)] at hE
        exact hE.2 _ _ _ rfl z
      · rw [hW 7 (by decide), nI_leI (by omega) (by omega)]
        exact ⟨fun y => st116 w1 w2 w3 0 (by rw [if_neg (by omega)]), fun y => st116 w1 w2 w3 1 (by rw [if_pos (by omega)])⟩
    have st34 : ∀ rm, rm = (if F 4 < 3 then 1 else 0) → G (d + 10) 167 34 [(0, .ref 263)] [.int (nI rm), .float (UInt32.ofNat 1), .ref 263] r g j (rkV K) := by
      intro rm hrm
      refine vX10_readLine_34 (M_begins (d := d + 4) (by decide) hR hf hW h8 (by split at hrm <;> omega) (fun w a c g1 R1 f1 => ⟨fun y => absurd y n10, fun _ => ?_⟩) (fun w a g1 z => ⟨fun y => absurd y n10, fun _ => vX10_shipLine_0 ⟨fun y => absurd y z.nz, fun _ => ?_⟩⟩) (fun w a c g1 z => ⟨fun y => absurd y n10, fun _ => vX10_shipLine_0 ⟨fun y => absurd y z.nz, fun _ => ?_⟩⟩) (fun w1 => ⟨fun _ => ?_, fun y => absurd n00 y⟩))
      · have bb := b8 1 c
        have c7 : F 4 < 3 := by split at hrm <;> omega
        rw [if_pos ⟨1, by decide, w⟩, if_neg w0, if_neg (by omega), if_pos w, if_pos c7] at hE
        exact M_shipLine (d := d + 1) R1 (by rw [f1 263 13 (by omega)]; exact hf) (hW.ps f1) hL c7 (hE.ps f1)
      · have c7 : ¬ F 4 < 3 := by split at hrm <;> omega
        have bb : ¬ b = 0 := fun z => by have := i0 z 4; omega
        rw [if_pos ⟨1, by decide, w⟩, if_neg w0, if_neg bb, if_pos w, if_neg c7] at hE
        exact hE.2 _ _ _ rfl z
      · rw [if_pos ⟨1, by decide, w⟩, if_neg w0, if_pos (b8 0 c)] at hE
        exact hE.2 _ _ _ rfl z
      · refine M_begins (d := d + 4) (by decide) hR hf hW h8 (Nat.le_refl 1) (fun w a c g1 R1 f1 => ⟨fun y => absurd y n10, fun _ => ?_⟩) (fun w a g1 z => by omega) (fun w a c g1 z => ⟨fun y => absurd y n10, fun _ => vX10_crateLine_0 ⟨fun y => absurd y z.nz, fun _ => ?_⟩⟩) (fun w2 => ⟨fun _ => IX_l (by decide) ?_, fun y => absurd n00 y⟩)
        · have bb := b8 1 c
          rw [if_pos ⟨2, by decide, w⟩, if_neg w0, if_neg (by omega), if_neg w1, if_pos w] at hE
          exact M_crateLine (d := d + 1) R1 (by rw [f1 263 13 (by omega)]; exact hf) (hW.ps f1) hN hL hB (hE.ps f1)
        · rw [if_pos ⟨2, by decide, w⟩, if_neg w0, if_pos (b8 0 c)] at hE
          exact hE.2 _ _ _ rfl z
        · rw [hW 6 (by decide), nI_leI (by omega) (by omega)]
          exact ⟨fun y => st83 w1 w2 0 (by rw [if_neg (by omega)]), fun y => st83 w1 w2 1 (by rw [if_pos (by omega)])⟩
    rw [hW 4 (by decide), nI_leI (by omega) (by omega)]
    exact ⟨fun y => st34 0 (by rw [if_neg (by omega)]), fun y => st34 1 (by rw [if_pos (by omega)])⟩
end
