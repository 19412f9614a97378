/-! THE TEXT: a new name, on both sides -/
def putN (n : Nat) (τ : Nat → Nat) (e : Nat) (F : Nat → Nat) (s : Nat) : Nat → Nat := fun k => if k = 141 + s then tZ n τ e - tA n τ e else if 164 + 8 * s ≤ k ∧ k < 164 + 8 * s + (tZ n τ e - tA n τ e) then τ (tA n τ e + (k - (164 + 8 * s))) else F k
noncomputable def nwN (n : Nat) (τ : Nat → Nat) (e : Nat) (F : Nat → Nat) : Rz Unit := @ite _ (tK n τ e = 1 ∧ ¬ isKW n τ e) (Classical.propDecidable _) (@ite _ (∃ s, s < 23 ∧ mtc n τ e F s) (Classical.propDecidable _) (.inl (3, tA n τ e)) (.inr ())) (.inl (1, tA n τ e))
section
variable {n e d cn s0 : Nat} {τ F ν : Nat → Nat} {r : Rr} {g g' : Gi} {j j' : Gl}
theorem putN_z {s : Nat} : putN n τ e F s (141 + s) = tZ n τ e - tA n τ e := by unfold putN; rw [if_pos rfl]
theorem putN_l {s i : Nat} (hs : s < 23) (hi : i < tZ n τ e - tA n τ e) : putN n τ e F s (164 + 8 * s + i) = τ (tA n τ e + i) := by
  unfold putN
  rw [if_neg (by omega), if_pos ⟨by omega, by omega⟩]
  congr 2
  omega
theorem putN_o {s k : Nat} (h1 : k ≠ 141 + s) (h2 : ¬ (164 + 8 * s ≤ k ∧ k < 164 + 8 * s + (tZ n τ e - tA n τ e))) : putN n τ e F s k = F k := by unfold putN; rw [if_neg h1, if_neg h2]
theorem nwN_y (h : nwN n τ e F = .inr ()) : tK n τ e = 1 ∧ ¬ isKW n τ e ∧ ∀ s, s < 23 → ¬ mtc n τ e F s := by
  unfold nwN at h
  by_cases c : tK n τ e = 1 ∧ ¬ isKW n τ e
  · rw [if_pos c] at h
    by_cases c2 : ∃ s, s < 23 ∧ mtc n τ e F s
    · rw [if_pos c2] at h; cases h
    · exact ⟨c.1, c.2, fun s a b => c2 ⟨s, a, b⟩⟩
  · rw [if_neg c] at h; cases h
/-- the row with the new name -/
theorem FNm.put (hF : FNm F) (he : e ≤ n) (hs : s0 < 23) (hn : nwN n τ e F = .inr ()) : FNm (putN n τ e F s0) := by
  obtain ⟨hk, _, hno⟩ := nwN_y hn
  obtain ⟨a1, a2, a3⟩ := tK1 he hk
  have oz : ∀ s, s < 23 → s ≠ s0 → putN n τ e F s0 (141 + s) = F (141 + s) := fun s h1 h2 => putN_o (by omega) (by omega)
  have ol : ∀ s i, s < 23 → s ≠ s0 → i < 8 → putN n τ e F s0 (164 + 8 * s + i) = F (164 + 8 * s + i) := fun s i h1 h2 h3 => putN_o (by omega) (by omega)
  have lt : ∀ i, i < tZ n τ e - tA n τ e → 97 ≤ τ (tA n τ e + i) ∧ τ (tA n τ e + i) ≤ 122 := fun i hi => isSm_r.mp (a3 _ (by omega) (by omega))
  refine ⟨fun s h1 => ?_, fun s s' h1 h2 h3 h4 h5 => ?_⟩
  · by_cases c : s = s0
    · subst c
      rw [putN_z]
      exact ⟨by omega, fun i hi => by rw [putN_l h1 hi]; exact lt i hi⟩
    · rw [oz s h1 c]
      have := hF.1 s h1
      exact ⟨this.1, fun i hi => by rw [ol s i h1 c (by omega)]; exact this.2 i hi⟩
  · by_cases c : s = s0
    · by_cases c' : s' = s0
      · omega
      · exfalso
        subst c
        rw [putN_z, oz s' h2 c'] at h4
        rw [putN_z] at h3 h5
        refine hno s' h2 ⟨by omega, h4.symm, fun i hi => ?_⟩
        have := h5 i hi
        rw [putN_l h1 hi, ol s' i h2 c' (by omega)] at this
        exact this.symm
    · by_cases c' : s' = s0
      · exfalso
        subst c'
        rw [oz s h1 c, putN_z] at h4
        rw [oz s h1 c] at h3 h5
        refine hno s h1 ⟨h3, h4, fun i hi => ?_⟩
        have := h5 i (by omega)
        rw [putN_l h2 hi, ol s i h1 c (by omega)] at this
        exact this
      · rw [oz s h1 c] at h3 h4 h5
        rw [oz s' h2 c'] at h4
        have b := hF.1 s h1
        exact hF.2 s s' h1 h2 h3 h4 (fun i hi => by
          have := h5 i hi
          rw [ol s i h1 c (by omega), ol s' i h2 c' (by omega)] at this
          exact this)
theorem wdS_o (hF : FNm F) {s : Nat} (hs : s < 23) (hz : tZ n τ e - tA n τ e ≤ 8) (hs0 : s0 < 23) (hne : s ≠ s0) : wdS (putN n τ e F s0) s = wdS F s := by
  have key : ∀ m, m ≤ 8 → wdN (fun i => putN n τ e F s0 (164 + 8 * s + i)) 0 m = wdN (fun i => F (164 + 8 * s + i)) 0 m := by
    intro m
    induction m with
    | zero => intro _; rfl
    | succ m ih =>
      intro h
      show wdN _ 0 m * 32 + (putN n τ e F s0 (164 + 8 * s + (0 + m)) - 96) = wdN _ 0 m * 32 + (F (164 + 8 * s + (0 + m)) - 96)
      rw [ih (by omega), putN_o (by omega) (by omega)]
  unfold wdS
  rw [putN_o (show 141 + s ≠ 141 + s0 by omega) (by omega)]
  exact key _ (hF.1 s hs).1
theorem wdS_s (hs : s0 < 23) : wdS (putN n τ e F s0) s0 = tW n τ e := by
  have key : ∀ m, m ≤ tZ n τ e - tA n τ e → wdN (fun i => putN n τ e F s0 (164 + 8 * s0 + i)) 0 m = wdN τ (tA n τ e) m := by
    intro m
    induction m with
    | zero => intro _; rfl
    | succ m ih =>
      intro h
      show wdN _ 0 m * 32 + (putN n τ e F s0 (164 + 8 * s0 + (0 + m)) - 96) = wdN τ _ m * 32 + (τ (tA n τ e + m) - 96)
      rw [ih (by omega), Nat.zero_add, putN_l hs (by omega)]
  unfold wdS tW
  rw [putN_z]
  exact key _ (Nat.le_refl _)
/-- what newName changes -/
def NF (g g' : Gi) (j j' : Gl) : Prop := (∀ a q, ¬ (a = 60 ∨ a = 61 ∨ (a = 58 ∧ ((4 ≤ q ∧ q ≤ 11) ∨ q = 15))) → g' a q = g a q) ∧ ∀ a q, ¬ (a = 59 ∨ (a = 58 ∧ q = 7)) → j' a q = j a q
theorem NF.rf : NF g g j j := ⟨fun _ _ _ => rfl, fun _ _ _ => rfl⟩
theorem NF.tr {g2 : Gi} {j2 : Gl} (h : NF g g' j j') (h' : NF g' g2 j' j2) : NF g g2 j j2 := ⟨fun a q z => (h'.1 a q z).trans (h.1 a q z), fun a q z => (h'.2 a q z).trans (h.2 a q z)⟩
theorem WS.nf (h : WS g g' j j') : NF g g' j j' := ⟨fun a q z => h.1 a q (by omega), fun a q z => h.2 a q (by omega)⟩
/-- the lists behind newName: one more, or none where there is no room -/
def NL (cn so ix w : Nat) (g g' : Gi) (j j' : Gl) : Prop := ((cn < 23 ∧ g' 58 15 = nI (cn + 1) ∧ j' 59 cn = lN w ∧ g' 60 cn = nI so ∧ g' 61 cn = nI ix) ∨ (cn = 23 ∧ g' 58 15 = nI cn)) ∧ ∀ i, i < cn → j' 59 i = j 59 i ∧ g' 60 i = g 60 i ∧ g' 61 i = g 61 i
theorem X_newName {K : Int32 → Rr → Gi → Gl → Prop} {so ix : Nat} (hR : RdX n τ e g j) (hc : g 58 15 = nI cn) (hcn : cn ≤ 23) (hl : ∀ i, i < cn → tK n τ e = 1 → j 59 i = j 58 7 → ∃ s, s < 23 ∧ mtc n τ e F s) (ha : ∀ s, s < 23 → tK n τ e = 1 → mtc n τ e F s → ∃ i, i < cn ∧ j 59 i = j 58 7)
    (h1 : nwN n τ e F = .inr () → ∀ g' j', RdX n τ (tZ n τ e) g' j' → NL cn so ix (tW n τ e) g g' j j' → NF g g' j j' → K (nI 1) r g' j') (h0 : ∀ num pl g' j', nwN n τ e F = .inl (num, pl) → g' 58 16 = nI num → g' 58 17 = nI pl → WF g g' j j' → K (nI 0) r g' j') : Cm (d + 6) 38 [.ref 58, .int (nI so), .int (nI ix)] r g j (rkI K) := by
  have k4 := tK4 (n := n) (τ := τ) (e := e)
  have bad1 : ¬ (tK n τ e = 1 ∧ ¬ isKW n τ e) → G (d + 6) 38 15 [(0, .ref 58)] [] r g j (rkI K) := fun z => vX5_newName_15 (X_wrong hR (fun g' b1 b2 b3 => ⟨bo0, h0 1 (tA n τ e) g' j (by unfold nwN; rw [if_neg z]) b1 b2 b3⟩))
  refine vX5_newName_0 ?_
  rw [hR.2.2.2.1, nI_eq (by omega) (by decide)]
  refine ⟨fun hk => X_beginsLine hR (fun w => ⟨fun z => absurd z n10, fun _ => bad1 (fun z => z.2 w)⟩) (fun w => ⟨fun _ => ?_, fun z => absurd n00 z⟩), fun hk => bad1 (fun z => hk z.1)⟩
  refine X_nameAt (w := fun _ => 0) hc hcn (fun i hi ei _ => ⟨fun z => absurd z (nlt_0 (by omega)), fun _ => X_wrong hR (fun g' b1 b2 b3 => ⟨bo0, h0 3 (tA n τ e) g' j ?_ b1 b2 b3⟩)⟩) (fun hno => ⟨fun _ => ?_, fun z => absurd (by decide +kernel) z⟩)
  · unfold nwN
    rw [if_pos ⟨hk, w⟩, if_pos (hl i hi hk ei)]
  · have hnw : nwN n τ e F = .inr () := by
      unfold nwN
      rw [if_pos ⟨hk, w⟩, if_neg]
      rintro ⟨s, y1, y2⟩
      obtain ⟨i, z1, z2⟩ := ha s y1 hk y2
      exact hno i z1 z2
    rw [hc, nI_leI (by decide) (by omega)]
    refine ⟨fun z => vX5_newName_86 (X_next hR (by rw [hk]; decide) fun g' j' R' a9 f' => ⟨bo1, h1 hnw g' j' R' ⟨Or.inr ⟨by omega, by rw [f'.1 58 15 (by omega)]; exact hc⟩, fun i hi => ⟨f'.2 59 i (by omega), f'.1 60 i (by omega), f'.1 61 i (by omega)⟩⟩ f'.ws.nf⟩), fun z => IX_l (by omega) (IX_l (by omega) (IX_l (by omega) (vX5_newName_86 ?_)))⟩
    rw [nI_add]
    have R2 : RdX n τ e (uI (uI (uI g 60 cn (nI so)) 61 cn (nI ix)) 58 15 (nI (cn + 1))) (uJ j 59 cn (j 58 7)) := by
      obtain ⟨⟨b1, b2, b3⟩, b4, b5, b6, b7, b8, b9⟩ := hR
      refine ⟨⟨b1, fun i hi => ?_, ?_⟩, b4, ?_, ?_, fun z => ?_, fun z => ?_, fun z => ?_⟩
      · rw [uI_o (by decide), uI_o (by decide), uI_o (by decide)]; exact b2 i hi
      · rw [uI_n (by decide), uI_o (by decide), uI_o (by decide)]; exact b3
      · rw [uI_n (by decide), uI_o (by decide), uI_o (by decide)]; exact b5
      · rw [uI_n (by decide), uI_o (by decide), uI_o (by decide)]; exact b6
      · rw [uI_n (by decide), uI_o (by decide), uI_o (by decide)]; exact b7 z
      · rw [uJ_o (by decide)]; exact b8 z
      · rw [uI_n (by decide), uI_o (by decide), uI_o (by decide)]; exact b9 z
    refine X_next R2 (by rw [hk]; decide) fun g' j' R' a9 f' => ⟨bo1, h1 hnw g' j' R' ⟨Or.inl ⟨by omega, ?_, ?_, ?_, ?_⟩, fun i hi => ⟨?_, ?_, ?_⟩⟩ ⟨fun a q z => ?_, fun a q z => ?_⟩⟩
    · rw [f'.1 58 15 (by omega), uI_s]
    · rw [f'.2 59 cn (by omega), uJ_s]; exact hR.2.2.2.2.2.1 hk
    · rw [f'.1 60 cn (by omega), uI_o (by decide), uI_o (by decide), uI_s]
    · rw [f'.1 61 cn (by omega), uI_o (by decide), uI_s]
    · rw [f'.2 59 i (by omega), uJ_n (by omega)]
    · rw [f'.1 60 i (by omega), uI_o (by decide), uI_o (by decide), uI_n (by omega)]
    · rw [f'.1 61 i (by omega), uI_o (by decide), uI_n (by omega), uI_o (by decide)]
    · rw [f'.1 a q (by omega), uI_d (by omega), uI_o (by omega), uI_o (by omega)]
    · rw [f'.2 a q (by omega), uJ_o (by omega)]
theorem M_newName {K : Rr → Gi → Gl → Prop} (hs0 : s0 < 23) (hR : RdM n τ e g) (hf : g 263 13 = nI 0) (hrow : ∀ k, k < 348 → g 267 k = nI (F k)) (hb : ∀ s, s < 23 → F (141 + s) ≤ 8 ∧ ∀ i, i < 8 → F (164 + 8 * s + i) < 256)
    (h1 : nwN n τ e F = .inr () → ∀ g', RdM n τ (tZ n τ e) g' → (∀ k, k < 348 → g' 267 k = nI (putN n τ e F s0 k)) → g' 263 13 = nI 0 → MH g g' → K r g' j) (h0 : ∀ num pl g', nwN n τ e F = .inl (num, pl) → Fl num pl g' → MZ g g' → K r g' j) : Cm (d + 6) 159 [.ref 263, .int (nI s0)] r g j (rkV K) := by
  have e0 : g 263 13 = 0 := by rw [hf]; exact n00
  have bad : ∀ num pl g2, nwN n τ e F = .inl (num, pl) → Fl num pl g2 → MZ g g2 → G (d + 6) 159 35 [(0, .ref 263), (1, .int (nI s0))] [] r g2 j (rkV K) := fun num pl g2 a b c => vX10_newName_35 ⟨fun z => absurd (by rw [b.1] at z; exact z) n10, fun _ => h0 num pl g2 a b c⟩
  refine vX10_newName_0 ⟨fun _ => M_mustName hR hf (fun hk hw => ⟨fun _ => ?_, fun z => absurd e0 z⟩) (fun z g2 a2 b2 => ⟨fun y => absurd (by rw [a2.1] at y; exact y) n10, fun _ => bad 1 (tA n τ e) g2 (by unfold nwN; rw [if_neg z]) a2 (fl_mz (num := 0) (pl := 0) b2)⟩), fun z => absurd e0 z⟩
  refine M_find hR hk hrow hb (fun s hs hm _ => ⟨fun z => absurd z (nlt_0 (by omega)), fun _ => ?_⟩) (fun hno => ⟨fun _ => ?_, fun z => absurd (by decide +kernel) z⟩)
  · rw [hR.2.2.1]
    exact M_wrong hf fun g2 a2 b2 => bad 3 _ g2 (by unfold nwN; rw [if_pos ⟨hk, hw⟩, if_pos ⟨s, hs, hm⟩]) a2 (fl_mz (num := 0) (pl := 0) b2)
  · have hnw : nwN n τ e F = .inr () := by
      unfold nwN
      rw [if_pos ⟨hk, hw⟩, if_neg (fun ⟨s, a, b⟩ => hno s a b)]
    obtain ⟨a1, a2, a3⟩ := tK1 hR.2.1 hk
    obtain ⟨g8, gL⟩ := hR.2.2.2.2.2.1 hk
    refine vX10_newName_35 ⟨fun _ => ?_, fun z => absurd e0 z⟩
    have fin : ∀ gg, (∀ a q, a ≠ 267 → gg a q = g a q) → (∀ k, k < 348 → k ≠ 141 + s0 → gg 267 k = nI (putN n τ e F s0 k)) → gg 267 (141 + s0) = g 267 (141 + s0) → G (d + 6) 159 45 [(0, .ref 263), (1, .int (nI s0)), (2, .int (nI (tZ n τ e - tA n τ e)))] [] r gg j (rkV K) := by
      intro gg ho hl _
      refine vX10_newName_45 ?_
      rw [ho 263 8 (by decide), g8]
      refine ⟨fun _ => IX_e (q := 141 + s0) (nI_add 141 s0) (by omega) ?_, fun z => absurd (Int32.le_refl _) z⟩
      have R2 : RdM n τ e (uI gg 267 (141 + s0) (nI (tZ n τ e - tA n τ e))) := by
        obtain ⟨⟨b1, b2, b3⟩, b4, b5, b6, b7, b8, b9⟩ := hR
        have oo : ∀ a q, a ≠ 267 → (uI gg 267 (141 + s0) (nI (tZ n τ e - tA n τ e))) a q = g a q := fun a q z => by rw [uI_o z]; exact ho a q z
        exact ⟨⟨b1, fun i hi => by rw [oo 264 i (by decide)]; exact b2 i hi, by rw [oo 263 3 (by decide)]; exact b3⟩, b4, by rw [oo 263 4 (by decide)]; exact b5, by rw [oo 263 5 (by decide)]; exact b6, by rw [oo 263 6 (by decide)]; exact b7, fun z => ⟨by rw [oo 263 8 (by decide)]; exact (b8 z).1, fun k hk => by rw [oo 265 k (by decide)]; exact (b8 z).2 k hk⟩, fun z => by rw [oo 263 7 (by decide)]; exact b9 z⟩
      refine M_next R2 fun g' R' f' => h1 hnw g' R' (fun k hk => ?_) ?_ (fun a q z => ?_)
      · rw [f' 267 k (by omega)]
        by_cases c : k = 141 + s0
        · rw [c, uI_s, putN_z]
        · rw [uI_n c]; exact hl k hk c
      · rw [f' 263 13 (by omega), uI_o (by decide), ho 263 13 (by decide)]; exact hf
      · rw [f' a q (by omega), uI_o (by omega)]; exact ho a q (by omega)
    have loop : ∀ q i gg, i + q = tZ n τ e - tA n τ e → (∀ a q, a ≠ 267 → gg a q = g a q) → (∀ k, k < 348 → ¬ (164 + 8 * s0 ≤ k ∧ k < 164 + 8 * s0 + i) → gg 267 k = g 267 k) → (∀ i', i' < i → gg 267 (164 + 8 * s0 + i') = nI (τ (tA n τ e + i'))) → G (d + 6) 159 45 [(0, .ref 263), (1, .int (nI s0)), (2, .int (nI i))] [] r gg j (rkV K) := by
      intro q
      induction q with
      | zero =>
        intro i gg hi ho hk2 hl2
        have : i = tZ n τ e - tA n τ e := by omega
        subst this
        refine fin gg ho (fun k hk3 c => ?_) (hk2 _ (by omega) (by omega))
        by_cases c2 : 164 + 8 * s0 ≤ k ∧ k < 164 + 8 * s0 + (tZ n τ e - tA n τ e)
        · obtain ⟨i', hi'⟩ : ∃ i', k = 164 + 8 * s0 + i' := ⟨k - (164 + 8 * s0), by omega⟩
          subst hi'
          rw [hl2 i' (by omega), putN_l hs0 (by omega)]
        · rw [hk2 k hk3 c2, putN_o c c2]; exact hrow k hk3
      | succ q ih =>
        intro i gg hi ho hk2 hl2
        refine vX10_newName_45 ?_
        rw [ho 263 8 (by decide), g8]
        refine ⟨fun z => absurd z (nI_ge (by omega) (by omega)), fun _ => IX_l (by omega) (IX_e (q := 164 + 8 * s0 + i) (by rw [pk_mul, nI_add, nI_add]) (by omega) ?_)⟩
        rw [nI_add, ho 265 i (by decide), gL i (by omega)]
        refine ih (i + 1) _ (by omega) (fun a q z => by rw [uI_o z]; exact ho a q z) (fun k h3 h4 => by rw [uI_n (by omega)]; exact hk2 k h3 (by omega)) (fun i' hi' => ?_)
        by_cases c : i' = i
        · subst c; exact uI_s
        · rw [uI_n (by omega)]; exact hl2 i' (by omega)
    exact loop (tZ n τ e - tA n τ e) 0 g (by omega) (fun _ _ _ => rfl) (fun _ _ _ => rfl) (fun i' z => by omega)
theorem M_newName_f {K : Rr → Gi → Gl → Prop} {x : Int32} (hf : g 263 13 = nI 1) (h : K r g j) : Cm (d + 1) 159 [.ref 263, .int x] r g j (rkV K) := vX10_newName_0 ⟨fun z => absurd (by rw [hf] at z; exact z) n10, fun _ => h⟩
/-- the lists, looked at by NM -/
theorem NM.hl (hN : NM cn ν F g j) (hF : FNm F) (hR : RdX n τ e g j) : ∀ i, i < cn → tK n τ e = 1 → (j 59 i = j 58 7 ↔ mtc n τ e F (ν i)) := by
  intro i hi hk
  obtain ⟨a1, a2, a3, _⟩ := hN.2.2.1 i hi
  rw [a3, hR.2.2.2.2.2.1 hk]
  exact mtc_w hF hR.2.1 hk a1 a2
theorem NM.put (hN : NM cn ν F g j) (hF : FNm F) (he : e ≤ n) (hk : tK n τ e = 1) (hs : s0 < 23) (hz : F (141 + s0) = 0) (hL : NL cn (srt s0) (ixs s0) (tW n τ e) g g' j j') (hlt : cn < 23) : NM (cn + 1) (upN ν cn s0) (putN n τ e F s0) g' j' := by
  obtain ⟨a1, a2, a3⟩ := tK1 he hk
  obtain ⟨n1, n2, n3, n4⟩ := hN
  obtain ⟨hL1, hL2⟩ := hL
  rcases hL1 with ⟨_, l1, l2, l3, l4⟩ | ⟨l0, _⟩
  · refine ⟨l1, by omega, fun i hi => ?_, fun s h1 h2 => ?_⟩
    · by_cases c : i = cn
      · subst c
        rw [upN_s, putN_z, wdS_s hs]
        exact ⟨hs, by omega, l2, l3, l4⟩
      · rw [upN_o c]
        obtain ⟨b1, b2, b3, b4, b5⟩ := n3 i (by omega)
        have hne : ν i ≠ s0 := fun z => by rw [z] at b2; omega
        obtain ⟨c1, c2, c3⟩ := hL2 i (by omega)
        rw [putN_o (by omega) (by omega), wdS_o hF b1 (by omega) hs hne, c1, c2, c3]
        exact ⟨b1, b2, b3, b4, b5⟩
    · by_cases c : s = s0
      · exact ⟨cn, by omega, by rw [upN_s, c]⟩
      · rw [putN_o (by omega) (by omega)] at h2
        obtain ⟨i, b1, b2⟩ := n4 s h1 h2
        exact ⟨i, by omega, by rw [upN_o (by omega)]; exact b2⟩
  · omega
theorem NM.ns (hN : NM cn ν F g j) (hF : FNm F) : NS cn F g j := by
  obtain ⟨n1, n2, n3, n4⟩ := hN
  refine ⟨n1, n2, fun i hi => ?_, fun s h1 h2 => ?_⟩
  · obtain ⟨b1, b2, b3, b4, b5⟩ := n3 i hi
    by_cases c : ν i < 3
    · left
      have e1 : srt (ν i) = 1 := by unfold srt; rw [if_pos c]
      have e2 : ixs (ν i) = ν i := by unfold ixs; rw [if_pos c]
      rw [e1] at b4
      rw [e2] at b5
      exact ⟨b4, ν i, c, b2, b3, b5⟩
    · right
      refine ⟨fun z => ?_, fun s y1 y2 y3 => ?_⟩
      · rw [b4] at z
        unfold srt at z
        rw [if_neg c] at z
        split at z <;> exact absurd z (by decide +kernel)
      · rw [b3, pk_lEQ (by have := wdS_lt hF b1; omega) (by have := wdS_lt hF (show s < 23 by omega); omega)] at y3
        have q1 := hF.1 (ν i) b1
        have q2 := hF.1 s (by omega)
        obtain ⟨e1, e2⟩ := wdN_inj _ _ 0 0 _ _ (fun i' hi' => by rw [Nat.zero_add]; exact q1.2 i' hi') (fun i' hi' => by rw [Nat.zero_add]; exact q2.2 i' hi') y3
        have := hF.2 (ν i) s b1 (by omega) b2 e1 (fun i' hi' => by have := e2 i' hi'; rw [Nat.zero_add] at this; exact this)
        omega
  · obtain ⟨i, b1, b2⟩ := n4 s (by omega) h2
    obtain ⟨c1, c2, c3, c4, c5⟩ := n3 i b1
    rw [b2] at c3 c4 c5
    have e1 : srt s = 1 := by unfold srt; rw [if_pos h1]
    have e2 : ixs s = s := by unfold ixs; rw [if_pos h1]
    rw [e1] at c4
    rw [e2] at c5
    exact ⟨i, b1, c4, c3, c5⟩
/-- the ships' names stay behind the name of a crate -/
theorem NS.put (hN : NS cn F g j) (hF : FNm F) (he : e ≤ n) (hnw : nwN n τ e F = .inr ()) (hs : s0 < 23) (h3 : 3 ≤ s0) {ix : Nat} (hL : NL cn 2 ix (tW n τ e) g g' j j') : ∃ cn', NS cn' (putN n τ e F s0) g' j' := by
  obtain ⟨hk, _, hno⟩ := nwN_y hnw
  obtain ⟨a1, a2, a3⟩ := tK1 he hk
  obtain ⟨n1, n2, n3, n4⟩ := hN
  obtain ⟨hL1, hL2⟩ := hL
  have ez : ∀ s, s < 3 → putN n τ e F s0 (141 + s) = F (141 + s) := fun s h => putN_o (by omega) (by omega)
  have ew : ∀ s, s < 3 → wdS (putN n τ e F s0) s = wdS F s := fun s h => wdS_o hF (by omega) (by omega) hs (by omega)
  have old : ∀ i, i < cn → (g' 60 i = nI 1 ∧ ∃ s, s < 3 ∧ 0 < putN n τ e F s0 (141 + s) ∧ j' 59 i = lN (wdS (putN n τ e F s0) s) ∧ g' 61 i = nI s) ∨ (¬ g' 60 i = nI 1 ∧ ∀ s, s < 3 → 0 < putN n τ e F s0 (141 + s) → ¬ j' 59 i = lN (wdS (putN n τ e F s0) s)) := by
    intro i hi
    obtain ⟨c1, c2, c3⟩ := hL2 i hi
    rw [c1, c2, c3]
    rcases n3 i hi with ⟨b1, s, b2, b3, b4, b5⟩ | ⟨b1, b2⟩
    · exact Or.inl ⟨b1, s, b2, by rw [ez s b2]; exact b3, by rw [ew s b2]; exact b4, b5⟩
    · exact Or.inr ⟨b1, fun s y1 y2 => by rw [ew s y1]; rw [ez s y1] at y2; exact b2 s y1 y2⟩
  have all : ∀ s, s < 3 → 0 < putN n τ e F s0 (141 + s) → ∃ i, i < cn ∧ g' 60 i = nI 1 ∧ j' 59 i = lN (wdS (putN n τ e F s0) s) ∧ g' 61 i = nI s := by
    intro s h1 h2
    rw [ez s h1] at h2
    obtain ⟨i, b1, b2, b3, b4⟩ := n4 s h1 h2
    obtain ⟨c1, c2, c3⟩ := hL2 i b1
    exact ⟨i, b1, by rw [c2]; exact b2, by rw [c1, ew s h1]; exact b3, by rw [c3]; exact b4⟩
  rcases hL1 with ⟨l0, l1, l2, l3, l4⟩ | ⟨l0, l1⟩
  · refine ⟨cn + 1, l1, by omega, fun i hi => ?_, fun s h1 h2 => ?_⟩
    · by_cases c : i = cn
      · subst c
        right
        refine ⟨fun z => by rw [l3] at z; exact absurd z (by decide +kernel), fun s y1 y2 y3 => ?_⟩
        rw [l2, ew s y1] at y3
        rw [ez s y1] at y2
        exact hno s (by omega) ((mtc_w hF he hk (by omega) y2).mp y3.symm)
      · exact old i (by omega)
    · obtain ⟨i, b1, b2⟩ := all s h1 h2
      exact ⟨i, by omega, b2⟩
  · exact ⟨cn, l1, n2, old, all⟩
/-- lists that only a step or a fault went by -/
theorem NM.wf (hN : NM cn ν F g j) (hf : WF g g' j j') : NM cn ν F g' j' := ⟨by rw [hf.1 58 15 (by omega)]; exact hN.1, hN.2.1, fun i hi => by rw [hf.2 59 i (by omega), hf.1 60 i (by omega), hf.1 61 i (by omega)]; exact hN.2.2.1 i hi, hN.2.2.2⟩
theorem NS.wf (hN : NS cn F g j) (hf : WF g g' j j') : NS cn F g' j' := ⟨by rw [hf.1 58 15 (by omega)]; exact hN.1, hN.2.1, fun i hi => by rw [hf.2 59 i (by omega), hf.1 60 i (by omega), hf.1 61 i (by omega)]; exact hN.2.2.1 i hi, fun s h1 h2 => by
  obtain ⟨i, b1, b2, b3, b4⟩ := hN.2.2.2 s h1 h2
  exact ⟨i, b1, by rw [hf.1 60 i (by omega)]; exact b2, by rw [hf.2 59 i (by omega)]; exact b3, by rw [hf.1 61 i (by omega)]; exact b4⟩⟩
end
