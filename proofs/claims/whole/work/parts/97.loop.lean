/-! THE TEXT: the class's line; the lines of a text, on both sides -/
def XLn (n : Nat) (τ : Nat → Nat) (e q b : Nat) (F : Nat → Nat) (g : Gi) (j : Gl) : Prop := RdX n τ e g j ∧ (g 58 3 = nI b ∧ g 58 16 = nI 0) ∧ (b = 1 → Px q F g) ∧ (b = 0 → (g q 5 = nI 0 ∧ g q 7 = nI 0 ∧ g q 9 = nI 0 ∧ g q 11 = nI 0) ∧ ∀ a b, a < 5 → b < 5 → g (q + 5 + a) b = nI 0) ∧ ∃ ν, NM (F 4 + F 5 + F 6) ν F g j
noncomputable def txt (n : Nat) (τ : Nat → Nat) : Nat → Nat → Nat → (Nat → Nat) → LR
  | 0, _, _, _ => .inl (0, 0)
  | f + 1, e, b, F => bz (lineL n τ e b F) fun p => if tK n τ p.1 = 3 then txt n τ f (tZ n τ p.1) 1 p.2 else if tK n τ p.1 = 0 then (if 0 < p.2 4 ∧ 0 < p.2 6 then .inr p else .inl (6, tA n τ p.1)) else .inl (1, tA n τ p.1)
section
variable {d n e e' k lo hi q b s v : Nat} {τ F F' : Nat → Nat} {r : Rr} {g g' g0 : Gi} {j j' j0 : Gl}
theorem tZ_m (he : e ≤ n) : e ≤ tZ n τ e ∧ tZ n τ e ≤ n := ⟨Nat.le_trans (tA_b he).1 (tZ_b he).1, (tZ_b he).2⟩
theorem tK3 (he : e ≤ n) (h : tK n τ e = 3) : tA n τ e < n ∧ tZ n τ e = tA n τ e + 1 := by
  unfold tK at h
  unfold tZ
  by_cases c : n ≤ tA n τ e
  · rw [if_pos c] at h; omega
  · rw [if_neg c] at h
    rw [if_neg c]
    by_cases c1 : isSm (τ (tA n τ e)) = true
    · rw [if_pos c1] at h; split at h <;> omega
    · rw [if_neg c1] at h
      rw [if_neg c1]
      by_cases c2 : isDg (τ (tA n τ e)) = true
      · rw [if_pos c2] at h; split at h <;> omega
      · rw [if_neg c2]; exact ⟨by omega, rfl⟩
theorem waw_m {p : Nat × Nat} (he : e ≤ n) (h : waw n τ e k lo hi = .inr p) : e ≤ p.2 ∧ p.2 ≤ n := by
  unfold waw at h
  have h1 := tZ_m (τ := τ) he
  have h2 := tZ_m (τ := τ) h1.2
  by_cases c : isW n τ e k
  · rw [if_pos c] at h
    split at h
    · split at h
      · simp only [Sum.inr.injEq] at h
        rw [← h]
        exact ⟨Nat.le_trans h1.1 h2.1, h2.2⟩
      · cases h
    · cases h
  · rw [if_neg c] at h; cases h
theorem lineL_m (he : e ≤ n) (h : lineL n τ e b F = .inr (e', F')) : e ≤ e' := by
  have h1 := tZ_m (τ := τ) he
  have h2 := tZ_m (τ := τ) h1.2
  have h3 := tZ_m (τ := τ) h2.2
  have h4 := tZ_m (τ := τ) h3.2
  have h5 := tZ_m (τ := τ) h4.2
  unfold lineL at h
  by_cases c : isKW n τ e
  · rw [if_pos c] at h
    by_cases c0 : isW n τ e 0
    · rw [if_pos c0] at h
      split at h
      · unfold portL at h
        obtain ⟨p0, a0, h⟩ := bz_r h
        obtain ⟨p1, a1, h⟩ := bz_r h
        obtain ⟨p2, a2, h⟩ := bz_r h
        obtain ⟨p3, a3, h⟩ := bz_r h
        simp only [Sum.inr.injEq, Prod.mk.injEq] at h
        have m0 := waw_m h1.2 a0
        have m1 := waw_m m0.2 a1
        have m2 := waw_m m1.2 a2
        have m3 := waw_m m2.2 a3
        omega
      · cases h
    · rw [if_neg c0] at h
      split at h
      · cases h
      · by_cases c1 : isW n τ e 1
        · rw [if_pos c1] at h
          split at h
          · unfold shipL at h
            obtain ⟨_, _, h⟩ := bz_r h
            obtain ⟨p0, a0, h⟩ := bz_r h
            obtain ⟨p1, a1, h⟩ := bz_r h
            obtain ⟨p2, a2, h⟩ := bz_r h
            obtain ⟨p3, a3, h⟩ := bz_r h
            simp only [Sum.inr.injEq, Prod.mk.injEq] at h
            have m0 := waw_m h2.2 a0
            have m1 := waw_m m0.2 a1
            have m2 := waw_m m1.2 a2
            have m3 := waw_m m2.2 a3
            omega
          · cases h
        · rw [if_neg c1] at h
          by_cases c2 : isW n τ e 2
          · rw [if_pos c2] at h
            unfold crateL at h
            obtain ⟨_, _, h⟩ := bz_r h
            obtain ⟨kd, _, h⟩ := bz_r h
            obtain ⟨e3, a3, h⟩ := bz_r h
            obtain ⟨sh, _, h⟩ := bz_r h
            have z3 : e3 = tZ n τ (tZ n τ (tZ n τ (tZ n τ e))) := by
              unfold onL at a3
              by_cases w : isW n τ (tZ n τ (tZ n τ (tZ n τ e))) 18
              · rw [if_pos w] at a3
                simp only [Sum.inr.injEq] at a3
                exact a3.symm
              · rw [if_neg w] at a3; cases a3
            subst z3
            split at h
            · cases h
            · obtain ⟨p0, a0, h⟩ := bz_r h
              obtain ⟨p1, a1, h⟩ := bz_r h
              split at h
              · cases h
              · obtain ⟨p2, a2, h⟩ := bz_r h
                simp only [Sum.inr.injEq, Prod.mk.injEq] at h
                have m0 := waw_m h5.2 a0
                have m1 := waw_m m0.2 a1
                have m2 := waw_m m1.2 a2
                omega
          · rw [if_neg c2] at h
            by_cases c3 : isW n τ e 3
            · rw [if_pos c3] at h
              split at h
              · unfold townL at h
                obtain ⟨_, _, h⟩ := bz_r h
                obtain ⟨p0, a0, h⟩ := bz_r h
                simp only [Sum.inr.injEq, Prod.mk.injEq] at h
                have m0 := waw_m h2.2 a0
                omega
              · cases h
            · rw [if_neg c3] at h
              by_cases c4 : isW n τ e 4
              · rw [if_pos c4] at h
                split at h
                · unfold roadL at h
                  obtain ⟨s1, _, h⟩ := bz_r h
                  obtain ⟨s2, _, h⟩ := bz_r h
                  split at h
                  · cases h
                  · obtain ⟨p0, a0, h⟩ := bz_r h
                    simp only [Sum.inr.injEq, Prod.mk.injEq] at h
                    have m0 := waw_m h3.2 a0
                    omega
                · cases h
              · rw [if_neg c4] at h
                unfold openL at h
                obtain ⟨s1, _, h⟩ := bz_r h
                split at h
                · cases h
                · split at h
                  · simp only [Sum.inr.injEq, Prod.mk.injEq] at h; omega
                  · split at h
                    · simp only [Sum.inr.injEq, Prod.mk.injEq] at h; omega
                    · cases h
  · rw [if_neg c] at h; cases h
theorem lineL_ok (he : e ≤ n) (hI : FI b F) (h : lineL n τ e b F = .inr (e', F')) : FI 1 F' ∧ e' ≤ n := by
  have h1 := tZ_m (τ := τ) he
  unfold lineL at h
  by_cases c : isKW n τ e
  · rw [if_pos c] at h
    by_cases c0 : isW n τ e 0
    · rw [if_pos c0] at h
      by_cases z : b = 0
      · rw [if_pos z] at h; subst z; exact portL_ok h1.2 hI h
      · rw [if_neg z] at h; cases h
    · rw [if_neg c0] at h
      by_cases z : b = 0
      · rw [if_pos z] at h; cases h
      · rw [if_neg z] at h
        have hb : b = 1 := by have := hI.2.2.1; omega
        subst hb
        by_cases c1 : isW n τ e 1
        · rw [if_pos c1] at h
          by_cases y : F 4 < 3
          · rw [if_pos y] at h; exact shipL_ok h1.2 hI y h
          · rw [if_neg y] at h; cases h
        · rw [if_neg c1] at h
          by_cases c2 : isW n τ e 2
          · rw [if_pos c2] at h; have := crateL_ok h1.2 hI h; exact ⟨this.1, this.2.1⟩
          · rw [if_neg c2] at h
            by_cases c3 : isW n τ e 3
            · rw [if_pos c3] at h
              by_cases y : F 6 < 5
              · rw [if_pos y] at h; exact townL_ok h1.2 hI y h
              · rw [if_neg y] at h; cases h
            · rw [if_neg c3] at h
              by_cases c4 : isW n τ e 4
              · rw [if_pos c4] at h
                by_cases y : F 7 < 8
                · rw [if_pos y] at h; exact roadL_ok h1.2 hI y h
                · rw [if_neg y] at h; cases h
              · rw [if_neg c4] at h; exact openL_ok h1.2 hI h
  · rw [if_neg c] at h; cases h
theorem X_line {K : Int32 → Rr → Gi → Gl → Prop} (hp : q = 2 ∨ q = 30) (hq : r 58 2 = some q) (hS : XLn n τ e q b F g j) (hI : FI b F) (hE : XE n τ q (lineL n τ e b F) g j (fun y g' j' => K y r g' j')) : Cm (d + 8) 40 [.ref 58] r g j (rkI K) := by
  obtain ⟨hR, h3, s1, s0, ν, hM⟩ := hS
  unfold lineL at hE
  have wr : ∀ num, XE n τ q (.inl (num, tA n τ e)) g j (fun y g' j' => K y r g' j') → Cm (d + 7) 29 [.ref 58, .int (nI num)] r g j (rkI (fun y r g j => (y = 0 ∨ y = 1) ∧ K y r g j)) := fun num E => X_wrong hR fun g1 a c f => ⟨bo0, E.2 _ _ _ _ rfl a c (LnF.of (Sm.rf.wf f) HQ.rf)⟩
  have fin : ∀ m, Cm (d + 7) m [.ref 58] r g j (rkI (fun y r g j => (y = 0 ∨ y = 1) ∧ K y r g j)) → Cm (d + 7) m [.ref 58] r g j (rkI (fun y r g j => (y = 0 ∨ y = 1) ∧ rkI K (some (.int y)) r g j)) := fun m h => h
  have cv : ∀ y g' j', K y r g' j' → (y = 0 ∨ y = 1) → ((y = 0 ∨ y = 1) ∧ K y r g' j') := fun y g' j' h z => ⟨z, h⟩
  have EE : ∀ L, XE n τ q L g j (fun y g' j' => K y r g' j') → XE n τ q L g j (fun y g' j' => (y = 0 ∨ y = 1) ∧ K y r g' j') := fun L E => ⟨fun e' F' g' j' a b c => ⟨bo1, E.1 e' F' g' j' a b c⟩, fun num pl g' j' a b c f => ⟨bo0, E.2 num pl g' j' a b c f⟩⟩
  refine vX5_line_0 (X_beginsLine (d := d + 2) hR (fun w => ⟨fun y => absurd y n10, fun _ => ?_⟩) (fun w => ⟨fun _ => wr 1 (by rw [if_neg w] at hE; exact hE), fun y => absurd n00 y⟩))
  rw [if_pos w] at hE
  have hk1 : tK n τ e ≠ 4 := by obtain ⟨k, _, w⟩ := w; rw [w.1]; decide
  refine X_is (d := d + 3) (by decide) hR (fun w0 => ⟨fun y => absurd y n10, fun _ => ?_⟩) (fun w0 => ⟨fun _ => ?_, fun y => absurd n00 y⟩)
  · rw [if_pos w0] at hE
    rw [h3.1]
    rcases hI.2.2.1 with z | z
    · subst z
      rw [if_pos rfl] at hE
      have hz := hI.1 rfl
      have y0 := s0 rfl
      rw [hz 4, hz 5, hz 6] at hM
      refine ⟨fun _ => X_portLine (d := d + 1) hp hq hR hk1 h3.2 hz y0.1.1 y0.1.2.1 y0.1.2.2.1 y0.1.2.2.2 y0.2 hM (EE _ hE), fun y => absurd n00 y⟩
    · subst z
      rw [if_neg (by decide)] at hE
      exact ⟨fun y => absurd y n10, fun _ => wr 3 hE⟩
  · rw [if_neg w0] at hE
    rw [h3.1]
    rcases hI.2.2.1 with z | z
    · subst z
      rw [if_pos rfl] at hE
      exact ⟨fun _ => wr 6 hE, fun y => absurd n00 y⟩
    · subst z
      rw [if_neg (by decide)] at hE
      have hT : XT n τ e q F g j := ⟨hR, h3, s1 rfl, ν, hM⟩
      refine ⟨fun y => absurd y n10, fun _ => ?_⟩
      refine X_is (d := d + 3) (by decide) hR (fun w1 => ⟨fun y => absurd y n10, fun _ => ?_⟩) (fun w1 => ⟨fun _ => ?_, fun y => absurd n00 y⟩)
      · rw [if_pos w1] at hE; exact X_shipLine (d := d) hp hq hk1 hT hI (EE _ hE)
      rw [if_neg w1] at hE
      refine X_is (d := d + 3) (by decide) hR (fun w1 => ⟨fun y => absurd y n10, fun _ => ?_⟩) (fun w2 => ⟨fun _ => ?_, fun y => absurd n00 y⟩)
      · rw [if_pos w1] at hE; exact X_crateLine (d := d) hp hq hk1 hT hI (EE _ hE)
      rw [if_neg w2] at hE
      refine X_is (d := d + 3) (by decide) hR (fun w1 => ⟨fun y => absurd y n10, fun _ => ?_⟩) (fun w3 => ⟨fun _ => ?_, fun y => absurd n00 y⟩)
      · rw [if_pos w1] at hE; exact X_townLine (d := d) hp hq hk1 hT hI (EE _ hE)
      rw [if_neg w3] at hE
      refine X_is (d := d + 3) (by decide) hR (fun w1 => ⟨fun y => absurd y n10, fun _ => ?_⟩) (fun w4 => ⟨fun _ => ?_, fun y => absurd n00 y⟩)
      · rw [if_pos w1] at hE; exact X_roadLine (d := d) hp hq hk1 hT hI (EE _ hE)
      rw [if_neg w4] at hE
      exact X_openedLine (d := d) hp hq hk1 hT hI (EE _ hE)
theorem LnF.tr (h : LnF q g0 g j0 j) (h' : LnF q g g' j j') : LnF q g0 g' j0 j' := ⟨fun a k z => (h'.1 a k z).trans (h.1 a k z), fun a k z => (h'.2 a k z).trans (h.2 a k z)⟩
/-- the reference's loop -/
theorem M_loop {Q : QT} : ∀ f e b F g, n < e + f → RdM n τ e g → g 263 13 = nI 0 → RW F g → FI b F → MH g0 g → ME n τ (txt n τ f e b F) g0 (fun g' => G (d + 11) 165 173 [(0, .ref 263)] [] r g' j Q) → Cm (d + 10) 167 [.ref 263] r g j (rkV (fun r4 g5 j6 => G (d + 11) 165 77 [(0, .ref 263)] [] r4 g5 j6 Q)) := by
  intro f
  induction f with
  | zero => intro e b F g h hR; have := hR.2.1; omega
  | succ f ih =>
    intro e b F g hn hR hf hW hI hM hE
    have bad : ∀ num pl gg, FM num pl g0 gg → G (d + 11) 165 173 [(0, .ref 263)] [] r gg j Q → G (d + 11) 165 104 [(0, .ref 263)] [] r gg j Q := fun num pl gg z h => vX10_port_104 ⟨fun y => absurd y z.nz, fun _ => vX10_port_127 ⟨fun y => absurd y z.nz, fun _ => h⟩⟩
    have bad127 : ∀ num pl gg, FM num pl g0 gg → G (d + 11) 165 173 [(0, .ref 263)] [] r gg j Q → G (d + 11) 165 127 [(0, .ref 263)] [] r gg j Q := fun num pl gg z h => vX10_port_127 ⟨fun y => absurd y z.nz, fun _ => h⟩
    refine M_readLine hR hf hW hI ⟨fun e' F' g' hl R' W' f' M' => ?_, fun num pl g' hl z => ?_⟩
    · have E1 := hE.i hl
      have mo := lineL_m hR.2.1 hl
      have ok := lineL_ok hR.2.1 hI hl
      have M2 := hM.tr M'
      have k4 := tK4 (n := n) (τ := τ) (e := e')
      have kb := mKb k4
      have rb := ok.1.2.2.2.1.1
      have g6 : g' 263 6 = nI (mK (tK n τ e')) := R'.2.2.2.2.1
      have E1 : ME n τ (if tK n τ e' = 3 then txt n τ f (tZ n τ e') 1 F' else if tK n τ e' = 0 then (if 0 < F' 4 ∧ 0 < F' 6 then .inr (e', F') else .inl (6, tA n τ e')) else .inl (1, tA n τ e')) g0 _ := E1
      refine vX10_port_77 ⟨fun _ => ?_, fun y => absurd (f13 f') y⟩
      rw [g6, nI_eq (by omega) (by omega), mK59 k4]
      refine ⟨fun c3 => ?_, fun c3 => ?_⟩
      · rw [if_pos c3] at E1
        have t3 := tK3 ok.2 c3
        have ta := (tA_b (τ := τ) ok.2).1
        refine M_next R' fun g2 R2 f2 => ?_
        exact ih (tZ n τ e') 1 F' g2 (by omega) R2 (by rw [f2 263 13 (by omega)]; exact f') (W'.ps f2) ok.1 (M2.tr f2.mh) E1
      · rw [if_neg c3] at E1
        refine vX10_port_104 ⟨fun _ => ?_, fun y => absurd (f13 f') y⟩
        have g60 : g' 263 6 = 0 ↔ tK n τ e' = 0 := by
          rw [g6, ← mK0 k4, ← nI_eq (a := mK (tK n τ e')) (b := 0) (by omega) (by omega), n00]
        refine ⟨fun y => ?_, fun y => ?_⟩
        · have c0 := g60.mp y
          rw [if_pos c0] at E1
          refine vX10_port_127 ⟨fun _ => IX_l (by decide) ⟨fun y => ?_, fun _ => IX_l (by decide) ⟨fun y => ?_, fun y4 => IX_l (by decide) ⟨fun y => ?_, fun y6 => ?_⟩⟩⟩, fun y => absurd (f13 f') y⟩
          · rw [W' 8 (by decide), (ok.1.2.1 rfl).2] at y; exact absurd y n10
          · have z4 : F' 4 = 0 := (nI_eq (a := F' 4) (b := 0) (by omega) (by omega)).mp (by rw [n00, ← W' 4 (by decide)]; exact y)
            rw [if_neg (by omega)] at E1
            refine vX10_port_163 ?_
            rw [R'.2.2.1]
            exact M_wrong f' fun g2 a c => E1.2 _ _ _ rfl ⟨a, M2.mf.tr (fl_mf (num := 0) (pl := 0) c)⟩
          · have z4 : F' 6 = 0 := (nI_eq (a := F' 6) (b := 0) (by omega) (by omega)).mp (by rw [n00, ← W' 6 (by decide)]; exact y)
            rw [if_neg (by omega)] at E1
            refine vX10_port_163 ?_
            rw [R'.2.2.1]
            exact M_wrong f' fun g2 a c => E1.2 _ _ _ rfl ⟨a, M2.mf.tr (fl_mf (num := 0) (pl := 0) c)⟩
          · have z4 : F' 4 ≠ 0 := fun z => y4 (by rw [W' 4 (by decide), z]; exact n00)
            have z6 : F' 6 ≠ 0 := fun z => y6 (by rw [W' 6 (by decide), z]; exact n00)
            rw [if_pos (by omega)] at E1
            exact E1.1 _ _ _ rfl R' W' f' M2
        · rw [if_neg (fun z => y (g60.mpr z))] at E1
          rw [R'.2.2.1]
          refine M_wrong f' fun g2 a c => ?_
          have z : FM 1 (tA n τ e') g0 g2 := ⟨a, M2.mf.tr (fl_mf (num := 0) (pl := 0) c)⟩
          exact bad127 _ _ _ z (E1.2 _ _ _ rfl z)
    · have z2 : FM num pl g0 g' := ⟨z.1, hM.mf.tr z.2⟩
      exact vX10_port_77 ⟨fun y => absurd y z2.nz, fun _ => bad _ _ _ z2 (hE.b hl _ z2)⟩
end
