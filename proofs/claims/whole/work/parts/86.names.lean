/-! THE TEXT: names, on both sides -/
def mtc (n : Nat) (τ : Nat → Nat) (e : Nat) (F : Nat → Nat) (s : Nat) : Prop := 0 < F (141 + s) ∧ F (141 + s) = tZ n τ e - tA n τ e ∧ ∀ i, i < tZ n τ e - tA n τ e → F (164 + 8 * s + i) = τ (tA n τ e + i)
def wdS (F : Nat → Nat) (s : Nat) : Nat := wdN (fun i => F (164 + 8 * s + i)) 0 (F (141 + s))
def srt (s : Nat) : Nat := if s < 3 then 1 else if s < 18 then 2 else 3
def ixs (s : Nat) : Nat := if s < 3 then s else if s < 18 then s - 3 else s - 18
/-- the names in the row -/
def FNm (F : Nat → Nat) : Prop := (∀ s, s < 23 → F (141 + s) ≤ 8 ∧ ∀ i, i < F (141 + s) → 97 ≤ F (164 + 8 * s + i) ∧ F (164 + 8 * s + i) ≤ 122) ∧ ∀ s s', s < 23 → s' < 23 → 0 < F (141 + s) → F (141 + s) = F (141 + s') → (∀ i, i < F (141 + s) → F (164 + 8 * s + i) = F (164 + 8 * s' + i)) → s = s'
def NM (cn : Nat) (ν : Nat → Nat) (F : Nat → Nat) (g : Gi) (j : Gl) : Prop := g 58 15 = nI cn ∧ cn ≤ 23 ∧ (∀ i, i < cn → ν i < 23 ∧ 0 < F (141 + ν i) ∧ j 59 i = lN (wdS F (ν i)) ∧ g 60 i = nI (srt (ν i)) ∧ g 61 i = nI (ixs (ν i))) ∧ ∀ s, s < 23 → 0 < F (141 + s) → ∃ i, i < cn ∧ ν i = s
/-- the ships alone -/
def NS (cn : Nat) (F : Nat → Nat) (g : Gi) (j : Gl) : Prop := g 58 15 = nI cn ∧ cn ≤ 23 ∧ (∀ i, i < cn → (g 60 i = nI 1 ∧ ∃ s, s < 3 ∧ 0 < F (141 + s) ∧ j 59 i = lN (wdS F s) ∧ g 61 i = nI s) ∨ (¬ g 60 i = nI 1 ∧ ∀ s, s < 3 → 0 < F (141 + s) → ¬ j 59 i = lN (wdS F s))) ∧ ∀ s, s < 3 → 0 < F (141 + s) → ∃ i, i < cn ∧ g 60 i = nI 1 ∧ j 59 i = lN (wdS F s) ∧ g 61 i = nI s
theorem wdN_lt (τ : Nat → Nat) (a : Nat) : ∀ m, (∀ i, i < m → 97 ≤ τ (a + i) ∧ τ (a + i) ≤ 122) → wdN τ a m < 32 ^ m := by
  intro m
  induction m with
  | zero => intro _; exact Nat.one_pos
  | succ m ih =>
    intro h
    have a1 := ih (fun i hi => h i (by omega))
    have a2 := h m (by omega)
    show wdN τ a m * 32 + (τ (a + m) - 96) < 32 ^ (m + 1)
    rw [Nat.pow_succ]
    omega
theorem wdN_inj (τ τ' : Nat → Nat) (a a' : Nat) : ∀ m m', (∀ i, i < m → 97 ≤ τ (a + i) ∧ τ (a + i) ≤ 122) → (∀ i, i < m' → 97 ≤ τ' (a' + i) ∧ τ' (a' + i) ≤ 122) → wdN τ a m = wdN τ' a' m' → m = m' ∧ ∀ i, i < m → τ (a + i) = τ' (a' + i) := by
  intro m
  induction m with
  | zero =>
    intro m' _ h' he
    cases m' with
    | zero => exact ⟨rfl, fun i hi => by omega⟩
    | succ m' =>
      have := h' m' (by omega)
      have he : 0 = wdN τ' a' m' * 32 + (τ' (a' + m') - 96) := he
      omega
  | succ m ih =>
    intro m' h h' he
    have a2 := h m (by omega)
    cases m' with
    | zero =>
      have he : wdN τ a m * 32 + (τ (a + m) - 96) = 0 := he
      omega
    | succ m' =>
      have b2 := h' m' (by omega)
      have he : wdN τ a m * 32 + (τ (a + m) - 96) = wdN τ' a' m' * 32 + (τ' (a' + m') - 96) := he
      obtain ⟨e1, e2⟩ := ih m' (fun i hi => h i (by omega)) (fun i hi => h' i (by omega)) (by omega)
      subst e1
      refine ⟨rfl, fun i hi => ?_⟩
      by_cases c : i = m
      · subst c; omega
      · exact e2 i (by omega)
section
variable {n e d cn : Nat} {τ F ν : Nat → Nat} {r : Rr} {g g' : Gi} {j j' : Gl} {K : Int32 → Rr → Gi → Gl → Prop}
theorem p32 {m : Nat} (h : m ≤ 8) : 32 ^ m ≤ 2 ^ 40 := Nat.le_trans (Nat.pow_le_pow_right (by decide) h : 32 ^ m ≤ 32 ^ 8) (by decide)
theorem wdS_lt (hF : FNm F) {s : Nat} (hs : s < 23) : wdS F s < 2 ^ 40 := by
  have := hF.1 s hs
  exact Nat.lt_of_lt_of_le (wdN_lt _ 0 _ (fun i hi => by rw [Nat.zero_add]; exact this.2 i hi)) (p32 this.1)
theorem tW_lt (he : e ≤ n) (hk : tK n τ e = 1) : tW n τ e < 2 ^ 40 := by
  obtain ⟨a1, a2, a3⟩ := tK1 he hk
  exact Nat.lt_of_lt_of_le (wdN_lt τ _ _ (fun i hi => isSm_r.mp (a3 _ (by omega) (by omega)))) (p32 (by omega))
/-- the long tells the name -/
theorem mtc_w (hF : FNm F) (he : e ≤ n) (hk : tK n τ e = 1) {s : Nat} (hs : s < 23) (h0 : 0 < F (141 + s)) : lN (wdS F s) = lN (tW n τ e) ↔ mtc n τ e F s := by
  obtain ⟨a1, a2, a3⟩ := tK1 he hk
  have b := hF.1 s hs
  rw [pk_lEQ (by have := wdS_lt hF hs; omega) (by have := tW_lt he hk; omega)]
  constructor
  · intro h
    obtain ⟨e1, e2⟩ := wdN_inj _ τ 0 (tA n τ e) _ _ (fun i hi => by rw [Nat.zero_add]; exact b.2 i hi) (fun i hi => isSm_r.mp (a3 _ (by omega) (by omega))) h
    refine ⟨h0, e1, fun i hi => ?_⟩
    have := e2 i (by omega)
    rw [Nat.zero_add] at this
    exact this
  · rintro ⟨_, e1, e2⟩
    have key : ∀ m, (∀ i, i < m → F (164 + 8 * s + i) = τ (tA n τ e + i)) → wdN (fun i => F (164 + 8 * s + i)) 0 m = wdN τ (tA n τ e) m := by
      intro m
      induction m with
      | zero => intro _; rfl
      | succ m ih =>
        intro h
        show wdN _ 0 m * 32 + (F (164 + 8 * s + (0 + m)) - 96) = wdN τ _ m * 32 + (τ (tA n τ e + m) - 96)
        rw [ih (fun i hi => h i (by omega)), Nat.zero_add, h m (by omega)]
    unfold wdS tW
    rw [e1]
    exact key _ e2
theorem mtc_u (hF : FNm F) {s s' : Nat} (hs : s < 23) (hs' : s' < 23) (h : mtc n τ e F s) (h' : mtc n τ e F s') : s = s' := by
  obtain ⟨a1, a2, a3⟩ := h
  obtain ⟨b1, b2, b3⟩ := h'
  exact hF.2 s s' hs hs' a1 (by omega) (fun i hi => by rw [a3 i (by omega), b3 i (by omega)])
theorem X_nameAt {w : Nat → Nat} (hc : g 58 15 = nI cn) (hcn : cn ≤ 23) (h1 : ∀ i, i < cn → j 59 i = j 58 7 → (∀ i', i' < i → ¬ j 59 i' = j 58 7) → K (nI i) r g j) (h0 : (∀ i, i < cn → ¬ j 59 i = j 58 7) → K (-1) r g j) : Cm d 37 [.ref 58] r g j (rkI K) := by
  have loop : ∀ q i, i + q = cn → (∀ i', i' < i → ¬ j 59 i' = j 58 7) → G d 37 2 [(0, .ref 58), (1, .int (nI i))] [] r g j (rkI K) := by
    intro q
    induction q with
    | zero =>
      intro i hi hp
      refine vX5_nameAt_2 ?_
      rw [hc]
      exact ⟨fun _ => h0 (fun i' hi' => hp i' (by omega)), fun z => absurd (nI_le (by omega) (by omega)) z⟩
    | succ q ih =>
      intro i hi hp
      refine vX5_nameAt_2 ?_
      rw [hc]
      refine ⟨fun z => absurd z (nI_ge (by omega) (by omega)), fun _ => IX_l (by omega) ?_⟩
      rw [lgz]
      refine ⟨fun z => h1 i (by omega) z hp, fun z => ?_⟩
      rw [nI_add]
      refine ih (i + 1) (by omega) (fun i' hi' => ?_)
      by_cases c : i' = i
      · subst c; exact z
      · exact hp i' (by omega)
  exact vX5_nameAt_0 (loop cn 0 (by omega) (fun i' z => by omega))
theorem M_find (hR : RdM n τ e g) (hk : tK n τ e = 1) (hrow : ∀ k, k < 348 → g 267 k = nI (F k)) (hb : ∀ s, s < 23 → F (141 + s) ≤ 8 ∧ ∀ i, i < 8 → F (164 + 8 * s + i) < 256) (h1 : ∀ s, s < 23 → mtc n τ e F s → (∀ s', s' < s → ¬ mtc n τ e F s') → K (nI s) r g j) (h0 : (∀ s, s < 23 → ¬ mtc n τ e F s) → K (-1) r g j) : Cm d 158 [.ref 263] r g j (rkI K) := by
  obtain ⟨a1, a2, a3⟩ := tK1 hR.2.1 hk
  obtain ⟨g8, gL⟩ := hR.2.2.2.2.2.1 hk
  have hz := tZ_b (τ := τ) hR.2.1
  have hn := hR.1.1
  have ht := hR.1.2.1
  have loop : ∀ q s, s + q = 23 → (∀ s', s' < s → ¬ mtc n τ e F s') → G d 158 2 [(0, .ref 263), (1, .int (nI s))] [] r g j (rkI K) := by
    intro q
    induction q with
    | zero =>
      intro s hs hp
      have : s = 23 := by omega
      subst this
      exact vX10_find_2 ⟨fun _ => h0 hp, fun z => absurd (Int32.le_refl _) z⟩
    | succ q ih =>
      intro s hs hp
      have bs := hb s (by omega)
      have next : ¬ mtc n τ e F s → G d 158 2 [(0, .ref 263), (1, .int (nI (s + 1)))] [] r g j (rkI K) := by
        intro hm
        refine ih (s + 1) (by omega) (fun s' hs' => ?_)
        by_cases c : s' = s
        · subst c; exact hm
        · exact hp s' (by omega)
      have no94 : ¬ mtc n τ e F s → G d 158 94 [(0, .ref 263), (1, .int (nI s)), (2, .int (nI 0))] [] r g j (rkI K) := by
        intro hm
        refine vX10_find_94 ⟨fun _ => ?_, fun z => absurd n00 z⟩
        rw [nI_add]; exact next hm
      have no42 : ¬ mtc n τ e F s → G d 158 42 [(0, .ref 263), (1, .int (nI s))] [] r g j (rkI K) := fun hm => vX10_find_42 (vX10_find_43 (vX10_find_46 ⟨fun _ => no94 hm, fun _ => ⟨fun _ => no94 hm, fun z => absurd n00 z⟩⟩))
      refine vX10_find_2 ⟨fun z => absurd z (nI_ge (by omega) (by decide)), fun _ => IX_e (q := 141 + s) (nI_add 141 s) (by omega) ?_⟩
      rw [hrow _ (by omega), ← nI_0, nI_leI (by omega) (by decide)]
      refine ⟨fun z => no42 (fun m => by have := m.1; omega), fun z => IX_e (q := 141 + s) (nI_add 141 s) (by omega) ?_⟩
      rw [hrow _ (by omega), g8, nI_eq (by omega) (by omega)]
      refine ⟨fun z2 => vX10_find_43 ?_, fun z2 => no42 (fun m => z2 m.2.1)⟩
      have inner : ∀ q2 i, i + q2 = tZ n τ e - tA n τ e → (∀ i', i' < i → F (164 + 8 * s + i') = τ (tA n τ e + i')) → G d 158 46 [(0, .ref 263), (1, .int (nI s)), (2, .int (nI 1)), (3, .int (nI i))] [] r g j (rkI K) := by
        intro q2
        induction q2 with
        | zero =>
          intro i hi hp2
          refine vX10_find_46 ?_
          rw [g8]
          refine ⟨fun _ => vX10_find_94 ⟨fun z => absurd z n10, fun _ => h1 s (by omega) ⟨by omega, z2, fun i' hi' => hp2 i' (by omega)⟩ hp⟩, fun z => absurd (nI_le (by omega) (by omega)) z⟩
        | succ q2 ih2 =>
          intro i hi hp2
          have tb := ht (tA n τ e + i) (by omega)
          refine vX10_find_46 ?_
          rw [g8]
          refine ⟨fun z => absurd z (nI_ge (by omega) (by omega)), fun _ => ⟨fun z => absurd z n10, fun _ => IX_e (q := 164 + 8 * s + i) (by rw [pk_mul, nI_add, nI_add]) (by omega) (IX_l (by omega) ?_)⟩⟩
          rw [hrow _ (by omega), gL i (by omega), nI_eq (by have := bs.2 i (by omega); omega) (by omega)]
          refine ⟨fun y => vX10_find_87 ?_, fun y => vX10_find_87 ?_⟩
          · rw [nI_add]
            refine ih2 (i + 1) (by omega) (fun i' hi' => ?_)
            by_cases c : i' = i
            · subst c; exact y
            · exact hp2 i' (by omega)
          · have hm : ¬ mtc n τ e F s := fun m => y (m.2.2 i (by omega))
            exact vX10_find_46 ⟨fun _ => no94 hm, fun _ => ⟨fun _ => no94 hm, fun z => absurd n00 z⟩⟩
      exact inner (tZ n τ e - tA n τ e) 0 (by omega) (fun i' z => by omega)
  exact vX10_find_0 (loop 23 0 (by decide) (fun s' z => by omega))
/-- a name of a sort must stand here: which -/
noncomputable def tnm (n : Nat) (τ : Nat → Nat) (e : Nat) (F : Nat → Nat) (lo hi : Nat) : Rz Nat := @ite _ (tK n τ e = 1 ∧ ¬ isKW n τ e) (Classical.propDecidable _) (@ite _ (∃ s, lo ≤ s ∧ s ≤ hi ∧ mtc n τ e F s) (Classical.propDecidable _) (.inr (@Classical.epsilon Nat ⟨0⟩ (fun s => lo ≤ s ∧ s ≤ hi ∧ mtc n τ e F s))) (.inl (2, tA n τ e))) (.inl (1, tA n τ e))
theorem tnm_y {lo hi s : Nat} (hk : tK n τ e = 1) (hw : ¬ isKW n τ e) (hlo : lo ≤ s) (hhi : s ≤ hi) (hm : mtc n τ e F s) (hu : ∀ s', lo ≤ s' → s' ≤ hi → mtc n τ e F s' → s' = s) : tnm n τ e F lo hi = .inr s := by
  unfold tnm
  rw [if_pos ⟨hk, hw⟩, if_pos ⟨s, hlo, hhi, hm⟩]
  have := @Classical.epsilon_spec Nat (fun s => lo ≤ s ∧ s ≤ hi ∧ mtc n τ e F s) ⟨s, hlo, hhi, hm⟩
  congr 1
  exact hu _ this.1 this.2.1 this.2.2
theorem tnm_n {lo hi : Nat} (hk : tK n τ e = 1) (hw : ¬ isKW n τ e) (hm : ∀ s, lo ≤ s → s ≤ hi → ¬ mtc n τ e F s) : tnm n τ e F lo hi = .inl (2, tA n τ e) := by
  unfold tnm
  rw [if_pos ⟨hk, hw⟩, if_neg (fun ⟨s, a, b, c⟩ => hm s a b c)]
theorem tnm_f {lo hi : Nat} (h : ¬ (tK n τ e = 1 ∧ ¬ isKW n τ e)) : tnm n τ e F lo hi = .inl (1, tA n τ e) := by
  unfold tnm
  rw [if_neg h]
/-- the reference's named(low, high) -/
theorem M_named {lo hi : Nat} (hlo : lo ≤ 22) (hhi : hi ≤ 22) (hR : RdM n τ e g) (hf : g 263 13 = nI 0) (hrow : ∀ k, k < 348 → g 267 k = nI (F k)) (hb : ∀ s, s < 23 → F (141 + s) ≤ 8 ∧ ∀ i, i < 8 → F (164 + 8 * s + i) < 256) (hu : ∀ s s', lo ≤ s → s ≤ hi → s' ≤ hi → mtc n τ e F s → mtc n τ e F s' → s' = s)
    (h1 : ∀ s, tnm n τ e F lo hi = .inr s → lo ≤ s → s ≤ hi → K (nI (s - lo)) r g j) (h0 : ∀ num pl g', tnm n τ e F lo hi = .inl (num, pl) → Fl num pl g' → MZ g g' → K (nI 0) r g' j) : Cm (d + 6) 160 [.ref 263, .int (nI lo), .int (nI hi)] r g j (rkI K) := by
  have e0 : g 263 13 = 0 := by rw [hf]; exact n00
  have bad : ∀ (num pl : Nat) (x3 : Int32) g2, tnm n τ e F lo hi = .inl (num, pl) → Fl num pl g2 → MZ g g2 → G (d + 6) 160 45 [(0, .ref 263), (1, .int (nI lo)), (3, .int x3)] [] r g2 j (rkI K) := fun num pl x3 g2 a b c => vX10_named_45 ⟨fun z => absurd (by rw [b.1] at z; exact z) n10, fun _ => h0 num pl g2 a b c⟩
  refine vX10_named_0 ⟨fun _ => M_mustName hR hf (fun hk hw => ⟨fun _ => ?_, fun z => absurd e0 z⟩) (fun z g2 a2 b2 => ⟨fun y => absurd (by rw [a2.1] at y; exact y) n10, fun _ => h0 1 (tA n τ e) g2 (tnm_f z) a2 (fl_mz (num := 0) (pl := 0) b2)⟩), fun z => absurd e0 z⟩
  refine M_find hR hk hrow hb (fun s hs hm hfst => ?_) (fun hno => ?_)
  · refine sM_inL (by omega) (by omega) (by omega) ?_
    by_cases c : lo ≤ s ∧ s ≤ hi
    · rw [if_pos c]
      refine ⟨fun z => absurd z n10, fun _ => vX10_named_45 ⟨fun _ => ?_, fun z => absurd e0 z⟩⟩
      rw [pk_sub c.1]
      exact h1 s (tnm_y hk hw c.1 c.2 hm (fun s' y1 y2 y3 => hu s s' c.1 c.2 y2 hm y3)) c.1 c.2
    · rw [if_neg c]
      have en : tnm n τ e F lo hi = .inl (2, tA n τ e) := tnm_n hk hw (fun s' y1 y2 y3 => by
        rcases Nat.lt_trichotomy s' s with z | z | z
        · exact hfst s' z y3
        · subst z; exact c ⟨y1, y2⟩
        · have := hu s' s y1 y2 (by omega) y3 hm; omega)
      refine ⟨fun _ => ?_, fun z => absurd n00 z⟩
      rw [hR.2.2.1]
      exact M_wrong hf fun g2 a2 b2 => bad 2 _ _ g2 en a2 (fl_mz (num := 0) (pl := 0) b2)
  · have en : tnm n τ e F lo hi = .inl (2, tA n τ e) := tnm_n hk hw (fun s' y1 y2 y3 => hno s' (by omega) y3)
    refine vX10_in_0 ⟨fun _ => ⟨bo0, ⟨fun _ => ?_, fun z => absurd n00 z⟩⟩, fun z => absurd (m1lt (by omega)) z⟩
    rw [hR.2.2.1]
    exact M_wrong hf fun g2 a2 b2 => bad 2 _ _ g2 en a2 (fl_mz (num := 0) (pl := 0) b2)
theorem M_named_f {x y : Int32} (hf : g 263 13 = nI 1) (h : K (nI 0) r g j) : Cm (d + 1) 160 [.ref 263, .int x, .int y] r g j (rkI K) := vX10_named_0 ⟨fun z => absurd (by rw [hf] at z; exact z) n10, fun _ => h⟩
/-- the class's toldName, by what its lists say of the sort -/
theorem X_toldName {lo hi so : Nat} (hso : so < 10) (hR : RdX n τ e g j) (hc : g 58 15 = nI cn) (hcn : cn ≤ 23)
    (hl : ∀ i, i < cn → tK n τ e = 1 → j 59 i = j 58 7 → (g 60 i = nI so ∧ ∃ s, lo ≤ s ∧ s ≤ hi ∧ mtc n τ e F s ∧ g 61 i = nI (s - lo) ∧ ∀ s', lo ≤ s' → s' ≤ hi → mtc n τ e F s' → s' = s) ∨ (¬ g 60 i = nI so ∧ ∀ s, lo ≤ s → s ≤ hi → ¬ mtc n τ e F s)) (ha : ∀ s, lo ≤ s → s ≤ hi → tK n τ e = 1 → mtc n τ e F s → ∃ i, i < cn ∧ j 59 i = j 58 7)
    (h1 : ∀ s g' j', tnm n τ e F lo hi = .inr s → lo ≤ s → s ≤ hi → RdX n τ (tZ n τ e) g' j' → g' 58 11 = nI (s - lo) → g' 58 9 = nI (tA n τ e) → WS g g' j j' → K (nI 1) r g' j') (h0 : ∀ num pl g' j', tnm n τ e F lo hi = .inl (num, pl) → g' 58 16 = nI num → g' 58 17 = nI pl → WF g g' j j' → K (nI 0) r g' j') : Cm (d + 6) 39 [.ref 58, .int (nI so)] r g j (rkI K) := by
  have k4 := tK4 (n := n) (τ := τ) (e := e)
  have bad1 : ¬ (tK n τ e = 1 ∧ ¬ isKW n τ e) → G (d + 6) 39 15 [(0, .ref 58)] [] r g j (rkI K) := fun z => vX5_toldName_15 (X_wrong hR (fun g' b1 b2 b3 => ⟨bo0, h0 1 _ g' j (tnm_f z) b1 b2 b3⟩))
  refine vX5_toldName_0 ?_
  rw [hR.2.2.2.1, nI_eq (by omega) (by decide)]
  refine ⟨fun hk => X_beginsLine hR (fun w => ⟨fun z => absurd z n10, fun _ => bad1 (fun z => z.2 w)⟩) (fun w => ⟨fun _ => ?_, fun z => absurd n00 z⟩), fun hk => bad1 (fun z => hk z.1)⟩
  have bad2 : (∀ s, lo ≤ s → s ≤ hi → ¬ mtc n τ e F s) → G (d + 6) 39 40 [(0, .ref 58)] [] r g j (rkI K) := fun z => vX5_toldName_40 (X_wrong hR (fun g' b1 b2 b3 => ⟨bo0, h0 2 _ g' j (tnm_n hk w z) b1 b2 b3⟩))
  refine X_nameAt (w := fun _ => 0) hc hcn (fun i hi ei hfst => ⟨fun z => absurd z (nlt_0 (by omega)), fun _ => IX_l (by omega) ?_⟩) (fun hno => ⟨fun _ => bad2 (fun s y1 y2 y3 => ?_), fun z => absurd (by decide +kernel) z⟩)
  · rcases hl i hi hk ei with ⟨e60, s, y1, y2, y3, y4, y5⟩ | ⟨e60, y⟩
    · refine ⟨fun _ => IX_l (by omega) ?_, fun z => absurd e60 z⟩
      rw [y4]
      have R2 : RdX n τ e (uI g 58 11 (nI (s - lo))) j := by
        obtain ⟨⟨b1, b2, b3⟩, b4, b5, b6, b7, b8, b9⟩ := hR
        exact ⟨⟨b1, fun i hi => by rw [uI_o (by decide)]; exact b2 i hi, by rw [uI_n (by decide)]; exact b3⟩, b4, by rw [uI_n (by decide)]; exact b5, by rw [uI_n (by decide)]; exact b6, fun z => by rw [uI_n (by decide)]; exact b7 z, b8, fun z => by rw [uI_n (by decide)]; exact b9 z⟩
      refine X_next R2 (by rw [hk]; decide) fun g' j' R' a9 f' => ⟨bo1, h1 s g' j' (tnm_y hk w y1 y2 y3 y5) y1 y2 R' (by rw [f'.1 58 11 (by omega), uI_s]) a9 ⟨fun a q z => ?_, f'.2⟩⟩
      rw [f'.1 a q (by omega), uI_d (by omega)]
    · exact ⟨fun z => absurd z e60, fun _ => bad2 y⟩
  · obtain ⟨i, z1, z2⟩ := ha s y1 y2 hk y3
    exact hno i z1 z2
end
