/-! THE TEXT: tokens, as both sides see them -/
def isSm (c : Nat) : Bool := Nat.ble 97 c && Nat.ble c 122
def isDg (c : Nat) : Bool := Nat.ble 48 c && Nat.ble c 57
def isBl (c : Nat) : Bool := Nat.beq c 32
def scF (τ : Nat → Nat) (P : Nat → Bool) : Nat → Nat → Nat
  | 0, k => k
  | f + 1, k => if P (τ k) = true then scF τ P f (k + 1) else k
def scn (n : Nat) (τ : Nat → Nat) (P : Nat → Bool) (k : Nat) : Nat := scF τ P (n - k) k
def tA (n : Nat) (τ : Nat → Nat) (e : Nat) : Nat := scn n τ isBl e
def tK (n : Nat) (τ : Nat → Nat) (e : Nat) : Nat :=
  if n ≤ tA n τ e then 0 else if isSm (τ (tA n τ e)) = true then (if scn n τ isSm (tA n τ e) ≤ tA n τ e + 8 then 1 else 4)
  else if isDg (τ (tA n τ e)) = true then (if scn n τ isDg (tA n τ e) ≤ tA n τ e + 3 then 2 else 4) else if τ (tA n τ e) = 59 then 3 else 4
def tZ (n : Nat) (τ : Nat → Nat) (e : Nat) : Nat :=
  if n ≤ tA n τ e then tA n τ e else if isSm (τ (tA n τ e)) = true then scn n τ isSm (tA n τ e)
  else if isDg (τ (tA n τ e)) = true then scn n τ isDg (tA n τ e) else tA n τ e + 1
def nmb (τ : Nat → Nat) (a : Nat) : Nat → Nat
  | 0 => 0
  | m + 1 => nmb τ a m * 10 + (τ (a + m) - 48)
def wdN (τ : Nat → Nat) (a : Nat) : Nat → Nat
  | 0 => 0
  | m + 1 => wdN τ a m * 32 + (τ (a + m) - 96)
def tV (n : Nat) (τ : Nat → Nat) (e : Nat) : Nat := nmb τ (tA n τ e) (tZ n τ e - tA n τ e)
def tW (n : Nat) (τ : Nat → Nat) (e : Nat) : Nat := wdN τ (tA n τ e) (tZ n τ e - tA n τ e)
theorem scF_ok (τ : Nat → Nat) (P : Nat → Bool) : ∀ f k, k ≤ scF τ P f k ∧ scF τ P f k ≤ k + f ∧ (∀ i, k ≤ i → i < scF τ P f k → P (τ i) = true) ∧ (scF τ P f k < k + f → ¬ P (τ (scF τ P f k)) = true) := by
  intro f
  induction f with
  | zero => intro k; exact ⟨Nat.le_refl _, Nat.le_refl _, fun i h1 h2 => absurd h2 (Nat.not_lt.mpr h1), fun h => absurd h (Nat.lt_irrefl _)⟩
  | succ f ih =>
    intro k
    show k ≤ (if P (τ k) = true then scF τ P f (k + 1) else k) ∧ _
    by_cases c : P (τ k) = true
    · obtain ⟨a1, a2, a3, a4⟩ := ih (k + 1)
      have e : scF τ P (f + 1) k = scF τ P f (k + 1) := if_pos c
      rw [if_pos c, e]
      refine ⟨by omega, by omega, fun i h1 h2 => ?_, fun h => a4 (by omega)⟩
      by_cases z : i = k
      · subst z; exact c
      · exact a3 i (by omega) h2
    · have e : scF τ P (f + 1) k = k := if_neg c
      rw [if_neg c, e]
      exact ⟨Nat.le_refl _, by omega, fun i h1 h2 => absurd h2 (Nat.not_lt.mpr h1), fun _ => c⟩
section
variable {n e k : Nat} {τ : Nat → Nat} {P : Nat → Bool}
theorem scn_ok (h : k ≤ n) : k ≤ scn n τ P k ∧ scn n τ P k ≤ n ∧ (∀ i, k ≤ i → i < scn n τ P k → P (τ i) = true) ∧ (scn n τ P k < n → ¬ P (τ (scn n τ P k)) = true) := by
  obtain ⟨a1, a2, a3, a4⟩ := scF_ok τ P (n - k) k
  exact ⟨a1, by unfold scn; omega, a3, fun h => a4 (by unfold scn at h; omega)⟩
theorem scn_y (h : k < n) (hp : P (τ k) = true) : scn n τ P k = scn n τ P (k + 1) := by
  unfold scn
  obtain ⟨f, hf⟩ : ∃ f, n - k = f + 1 := ⟨n - k - 1, by omega⟩
  rw [hf, show n - (k + 1) = f by omega]
  exact if_pos hp
theorem scn_n (h : ¬ (k < n ∧ P (τ k) = true)) : scn n τ P k = k := by
  unfold scn
  by_cases c : k < n
  · obtain ⟨f, hf⟩ : ∃ f, n - k = f + 1 := ⟨n - k - 1, by omega⟩
    rw [hf]
    exact if_neg (fun z => h ⟨c, z⟩)
  · rw [show n - k = 0 by omega]; rfl
theorem tA_b (h : e ≤ n) : e ≤ tA n τ e ∧ tA n τ e ≤ n := ⟨(scn_ok h).1, (scn_ok h).2.1⟩
theorem tZ_b (h : e ≤ n) : tA n τ e ≤ tZ n τ e ∧ tZ n τ e ≤ n := by
  have ha := tA_b (τ := τ) h
  unfold tZ
  split
  · exact ⟨Nat.le_refl _, ha.2⟩
  · split
    · exact ⟨(scn_ok ha.2).1, (scn_ok ha.2).2.1⟩
    · split
      · exact ⟨(scn_ok ha.2).1, (scn_ok ha.2).2.1⟩
      · exact ⟨by omega, by omega⟩
theorem tK4 : tK n τ e ≤ 4 := by
  unfold tK
  split
  · omega
  · split
    · split <;> omega
    · split
      · split <;> omega
      · split <;> omega
/-- a word -/
theorem tK1 (h : e ≤ n) (hk : tK n τ e = 1) : tA n τ e < tZ n τ e ∧ tZ n τ e ≤ tA n τ e + 8 ∧ ∀ i, tA n τ e ≤ i → i < tZ n τ e → isSm (τ i) = true := by
  have ha := tA_b (τ := τ) h
  unfold tK at hk
  split at hk
  · omega
  · rename_i c1
    split at hk
    · rename_i c2
      split at hk
      · rename_i c3
        have ez : tZ n τ e = scn n τ isSm (tA n τ e) := by unfold tZ; rw [if_neg c1, if_pos c2]
        have hs := scn_ok (τ := τ) (P := isSm) ha.2
        have hy := scn_y (P := isSm) (show tA n τ e < n by omega) c2
        have hs2 := scn_ok (τ := τ) (P := isSm) (show tA n τ e + 1 ≤ n by omega)
        rw [ez]
        exact ⟨by omega, c3, hs.2.2.1⟩
      · omega
    · split at hk
      · split at hk <;> omega
      · split at hk <;> omega
theorem tK2 (h : e ≤ n) (hk : tK n τ e = 2) : tA n τ e < tZ n τ e ∧ tZ n τ e ≤ tA n τ e + 3 ∧ ∀ i, tA n τ e ≤ i → i < tZ n τ e → isDg (τ i) = true := by
  have ha := tA_b (τ := τ) h
  unfold tK at hk
  split at hk
  · omega
  · rename_i c1
    split at hk
    · split at hk <;> omega
    · rename_i c2
      split at hk
      · rename_i c3
        split at hk
        · rename_i c4
          have ez : tZ n τ e = scn n τ isDg (tA n τ e) := by unfold tZ; rw [if_neg c1, if_neg c2, if_pos c3]
          have hs := scn_ok (τ := τ) (P := isDg) ha.2
          have hy := scn_y (P := isDg) (show tA n τ e < n by omega) c3
          have hs2 := scn_ok (τ := τ) (P := isDg) (show tA n τ e + 1 ≤ n by omega)
          rw [ez]
          exact ⟨by omega, c4, hs.2.2.1⟩
        · omega
      · split at hk <;> omega
theorem isSm_r {c : Nat} : isSm c = true ↔ 97 ≤ c ∧ c ≤ 122 := by
  unfold isSm
  rw [Bool.and_eq_true]
  exact ⟨fun h => ⟨Nat.le_of_ble_eq_true h.1, Nat.le_of_ble_eq_true h.2⟩, fun h => ⟨Nat.ble_eq_true_of_le h.1, Nat.ble_eq_true_of_le h.2⟩⟩
theorem isDg_r {c : Nat} : isDg c = true ↔ 48 ≤ c ∧ c ≤ 57 := by
  unfold isDg
  rw [Bool.and_eq_true]
  exact ⟨fun h => ⟨Nat.le_of_ble_eq_true h.1, Nat.le_of_ble_eq_true h.2⟩, fun h => ⟨Nat.ble_eq_true_of_le h.1, Nat.ble_eq_true_of_le h.2⟩⟩
theorem isBl_r {c : Nat} : isBl c = true ↔ c = 32 := ⟨fun h => Nat.eq_of_beq_eq_true h, fun h => by rw [h]; rfl⟩
theorem tV_b (h : e ≤ n) (hk : tK n τ e = 2) : tV n τ e ≤ 999 := by
  obtain ⟨h1, h2, h3⟩ := tK2 h hk
  have hd : ∀ i, tA n τ e ≤ i → i < tZ n τ e → τ i - 48 ≤ 9 := fun i a b => by have := isDg_r.mp (h3 i a b); omega
  unfold tV
  have a0 := hd (tA n τ e) (Nat.le_refl _) h1
  rcases (show tZ n τ e - tA n τ e = 1 ∨ tZ n τ e - tA n τ e = 2 ∨ tZ n τ e - tA n τ e = 3 by omega) with z | z | z <;> rw [z]
  · show 0 * 10 + (τ (tA n τ e + 0) - 48) ≤ 999
    rw [Nat.add_zero]; omega
  · have a1 := hd (tA n τ e + 1) (by omega) (by omega)
    show (0 * 10 + (τ (tA n τ e + 0) - 48)) * 10 + (τ (tA n τ e + 1) - 48) ≤ 999
    rw [Nat.add_zero]; omega
  · have a1 := hd (tA n τ e + 1) (by omega) (by omega)
    have a2 := hd (tA n τ e + 2) (by omega) (by omega)
    show ((0 * 10 + (τ (tA n τ e + 0) - 48)) * 10 + (τ (tA n τ e + 1) - 48)) * 10 + (τ (tA n τ e + 2) - 48) ≤ 999
    rw [Nat.add_zero]; omega
end
/-- a byte of the class's tape -/
abbrev sb (c : Nat) : Int32 := (nI c).toInt8.toInt32
theorem sb_c : ∀ c, c < 256 → ((c < 128 ∧ sb c = nI c) ∨ (128 ≤ c ∧ sb c < 0)) := by decide +kernel
def TpR (n : Nat) (τ : Nat → Nat) (g : Gi) : Prop := n ≤ 1000 ∧ (∀ i, i < n → τ i < 256 ∧ g 1 i = sb (τ i)) ∧ g 58 1 = nI n
/-- the class's token is the one from e on -/
def RdX (n : Nat) (τ : Nat → Nat) (e : Nat) (g : Gi) (j : Gl) : Prop := TpR n τ g ∧ e ≤ n ∧ g 58 5 = nI (tA n τ e) ∧ g 58 4 = nI (tK n τ e) ∧ (tK n τ e ≠ 4 → g 58 6 = nI (tZ n τ e)) ∧ (tK n τ e = 1 → j 58 7 = lN (tW n τ e)) ∧ (tK n τ e = 2 → g 58 8 = nI (tV n τ e))
section
variable {n e d : Nat} {τ : Nat → Nat} {r : Rr} {g g' : Gi} {j j' : Gl}
theorem X_kindOf {K : Int32 → Rr → Gi → Gl → Prop} {c : Nat} (hc : c < 256) (h : K (nI (if isSm c = true then 1 else if isDg c = true then 2 else if c = 59 then 3 else 4)) r g j) : Cm d 32 [.int (sb c)] r g j (rkI K) := by
  have hs := isSm_r (c := c)
  have hd := isDg_r (c := c)
  rcases sb_c c hc with ⟨h1, e1⟩ | ⟨h1, h2⟩
  · rw [e1]
    have k28 : ¬ isSm c = true → ¬ isDg c = true → G d 32 28 [(0, .int (nI c))] [] r g j (rkI K) := by
      intro n1 n2
      rw [if_neg n1, if_neg n2] at h
      refine vX5_kindOf_28 ?_
      rw [nI_eq (by omega) (by decide)]
      exact ⟨fun z => by rw [if_pos z] at h; exact h, fun z => by rw [if_neg z] at h; exact h⟩
    have k14 : ¬ isSm c = true → G d 32 14 [(0, .int (nI c))] [] r g j (rkI K) := by
      intro n1
      refine vX5_kindOf_14 ?_
      rw [nI_ltI (by omega) (by decide), nI_ltI (by decide) (by omega)]
      refine ⟨fun z => k28 n1 (fun y => by have := hd.mp y; omega), fun z => ⟨fun z2 => k28 n1 (fun y => by have := hd.mp y; omega), fun z2 => ?_⟩⟩
      rw [if_neg n1, if_pos (hd.mpr ⟨by omega, by omega⟩)] at h
      exact h
    refine vX5_kindOf_0 ?_
    rw [nI_ltI (by omega) (by decide), nI_ltI (by decide) (by omega)]
    refine ⟨fun z => k14 (fun y => by have := hs.mp y; omega), fun z => ⟨fun z2 => k14 (fun y => by have := hs.mp y; omega), fun z2 => ?_⟩⟩
    rw [if_pos (hs.mpr ⟨by omega, by omega⟩)] at h
    exact h
  · have n1 : ¬ isSm c = true := fun y => by have := hs.mp y; omega
    have n2 : ¬ isDg c = true := fun y => by have := hd.mp y; omega
    rw [if_neg n1, if_neg n2, if_neg (by omega)] at h
    have lt : ∀ m : Nat, m < 1000 → sb c < nI m := fun m hm => by
      rw [Int32.lt_iff_toInt_lt] at h2 ⊢
      rw [nI_toInt (by omega)]
      have : (0 : Int32).toInt = 0 := rfl
      omega
    refine vX5_kindOf_0 ⟨fun _ => vX5_kindOf_14 ⟨fun _ => vX5_kindOf_28 ⟨fun z => ?_, fun _ => h⟩, fun z => absurd (lt 48 (by decide)) z⟩, fun z => absurd (lt 97 (by decide)) z⟩
    rw [z] at h2
    exact absurd h2 (nI_pos (by decide))
/-- what a step changes -/
def StF (g g' : Gi) (j j' : Gl) : Prop := (∀ a q, ¬ (a = 58 ∧ (q = 4 ∨ q = 5 ∨ q = 6 ∨ q = 8 ∨ q = 9)) → g' a q = g a q) ∧ ∀ a q, ¬ (a = 58 ∧ q = 7) → j' a q = j a q
theorem StF.rf : StF g g j j := ⟨fun _ _ _ => rfl, fun _ _ _ => rfl⟩
theorem StF.tr {g2 : Gi} {j2 : Gl} (h : StF g g' j j') (h' : StF g' g2 j' j2) : StF g g2 j j2 := ⟨fun a q z => (h'.1 a q z).trans (h.1 a q z), fun a q z => (h'.2 a q z).trans (h.2 a q z)⟩
theorem TpR.st (h : TpR n τ g) (hf : ∀ a q, ¬ (a = 58 ∧ (q = 4 ∨ q = 5 ∨ q = 6 ∨ q = 8 ∨ q = 9)) → g' a q = g a q) : TpR n τ g' := ⟨h.1, fun i hi => by rw [hf 1 i (by omega)]; exact h.2.1 i hi, by rw [hf 58 1 (by omega)]; exact h.2.2⟩
theorem sb_e {c m : Nat} (hc : c < 256) (hm : m < 128) : sb c = nI m ↔ c = m := by
  rcases sb_c c hc with ⟨h1, e1⟩ | ⟨h1, h2⟩
  · rw [e1, nI_eq (by omega) (by omega)]
  · constructor
    · intro z; rw [z] at h2; exact absurd h2 (nI_pos (by omega))
    · intro z; omega
theorem Rd_step {K : Rr → Gi → Gl → Prop} (hT : TpR n τ g) (he : e ≤ n) (h6 : g 58 6 = nI e) (h : ∀ g' j', RdX n τ e g' j' → g' 58 9 = g 58 5 → StF g g' j j' → K r g' j') : Cm (d + 1) 31 [.ref 58] r g j (rkV K) := by
  obtain ⟨hn, ht, h1⟩ := id hT
  have ha := tA_b (τ := τ) he
  -- the end: the token is there
  have fin : ∀ g' j', TpR n τ g' → StF g g' j j' → g' 58 9 = g 58 5 → g' 58 5 = nI (tA n τ e) → g' 58 4 = nI (tK n τ e) → (tK n τ e ≠ 4 → g' 58 6 = nI (tZ n τ e)) → (tK n τ e = 1 → j' 58 7 = lN (tW n τ e)) → (tK n τ e = 2 → g' 58 8 = nI (tV n τ e)) → K r g' j' := fun g' j' a0 a1 a2 a3 a4 a5 a6 a7 => h g' j' ⟨a0, he, a3, a4, a5, a6, a7⟩ a2 a1
  -- the run of letters or digits
  have run : ∀ (kd : Nat) (P : Nat → Bool) (lim : Nat), (kd = 1 ∧ P = isSm ∧ lim = 8) ∨ (kd = 2 ∧ P = isDg ∧ lim = 3) → tA n τ e < n → P (τ (tA n τ e)) = true → ∀ q k g' j', k + q = scn n τ P (tA n τ e) → tA n τ e ≤ k → scn n τ P k = scn n τ P (tA n τ e) → StF g g' j j' → g' 58 9 = g 58 5 → g' 58 5 = nI (tA n τ e) → g' 58 4 = nI kd → g' 58 6 = nI k → (kd = 1 → j' 58 7 = lN (wdN τ (tA n τ e) (k - tA n τ e))) → (kd = 2 → g' 58 8 = nI (nmb τ (tA n τ e) (k - tA n τ e))) → G (d + 1) 31 132 [(0, .ref 58)] [] r g' j' (rkV K) := by
    intro kd P lim hk hlt hP q
    have hs := scn_ok (τ := τ) (P := P) ha.2
    induction q with
    | zero =>
      intro k g' j' hq hak hsc hf a9 a5 a4 a6 aW aV
      have ek : k = scn n τ P (tA n τ e) := by omega
      have f1 : g' 58 1 = nI n := by rw [hf.1 58 1 (by omega)]; exact h1
      have ez : tZ n τ e = k := by
        unfold tZ
        rcases hk with ⟨rfl, rfl, rfl⟩ | ⟨rfl, rfl, rfl⟩
        · rw [if_neg (by omega), if_pos hP, ek]
        · have : ¬ isSm (τ (tA n τ e)) = true := fun y => by have a := isSm_r.mp y; have b := isDg_r.mp hP; omega
          rw [if_neg (by omega), if_neg this, if_pos hP, ek]
      have eK : tK n τ e = if k ≤ tA n τ e + lim then kd else 4 := by
        unfold tK
        rcases hk with ⟨rfl, rfl, rfl⟩ | ⟨rfl, rfl, rfl⟩
        · rw [if_neg (by omega), if_pos hP, ek]
        · have : ¬ isSm (τ (tA n τ e)) = true := fun y => by have a := isSm_r.mp y; have b := isDg_r.mp hP; omega
          rw [if_neg (by omega), if_neg this, if_pos hP, ek]
      have last : G (d + 1) 31 227 [(0, .ref 58)] [] r g' j' (rkV K) := by
        have l250 : G (d + 1) 31 250 [(0, .ref 58)] [.int (nI lim), .int (g' 58 6 - g' 58 5)] r g' j' (rkV K) := by
          rw [a6, a5, pk_sub hak]
          refine vX5_step_250 ?_
          rw [nI_leI (by omega) (by rcases hk with ⟨_, _, rfl⟩ | ⟨_, _, rfl⟩ <;> decide)]
          have hT' := hT.st (g' := g') hf.1
          refine ⟨fun z => ?_, fun z => ?_⟩
          · rw [if_pos (by omega)] at eK
            refine fin g' j' hT' hf a9 a5 (by rw [a4, eK]) (fun _ => by rw [a6, ez]) (fun z2 => ?_) (fun z2 => ?_)
            · unfold tW; rw [ez]; exact aW (by omega)
            · unfold tV; rw [ez]; exact aV (by omega)
          · rw [if_neg (by omega)] at eK
            refine fin _ j' (hT.st fun a q z => by rw [uI_d (by omega)]; exact hf.1 a q z) ⟨fun a q z => by rw [uI_d (by omega)]; exact hf.1 a q z, hf.2⟩ (by rw [uI_n (by decide)]; exact a9) (by rw [uI_n (by decide)]; exact a5) (by rw [uI_s, eK]) (fun z2 => absurd eK z2) (fun z2 => by omega) (fun z2 => by omega)
        refine vX5_step_227 ?_
        rw [a4]
        rcases hk with ⟨rfl, rfl, rfl⟩ | ⟨rfl, rfl, rfl⟩
        · exact ⟨fun _ => l250, fun z => absurd rfl z⟩
        · exact ⟨fun z => absurd z (by decide +kernel), fun _ => l250⟩
      refine vX5_step_132 ?_
      rw [f1, a6]
      refine ⟨fun _ => last, fun z => ?_⟩
      have hkn : k < n := by rw [← Nat.not_le]; exact fun y => z (nI_le y (by omega))
      refine IX_l (by omega) ?_
      rw [hf.1 1 k (by omega), (ht k hkn).2]
      refine X_kindOf (ht k hkn).1 ⟨fun y => ?_, fun _ => last⟩
      exfalso
      have hno := hs.2.2.2 (by omega)
      rw [← ek] at hno
      rw [a4] at y
      rcases hk with ⟨rfl, rfl, rfl⟩ | ⟨rfl, rfl, rfl⟩
      · rw [if_neg hno] at y
        split at y
        · exact absurd y (by decide +kernel)
        · split at y <;> exact absurd y (by decide +kernel)
      · by_cases c1 : isSm (τ k) = true
        · rw [if_pos c1] at y; exact absurd y (by decide +kernel)
        · rw [if_neg c1, if_neg hno] at y
          split at y <;> exact absurd y (by decide +kernel)
    | succ q ih =>
      intro k g' j' hq hak hsc hf a9 a5 a4 a6 aW aV
      have hkn : k < n := by omega
      have hPk := hs.2.2.1 k hak (by omega)
      have f1 : g' 58 1 = nI n := by rw [hf.1 58 1 (by omega)]; exact h1
      have tb := ht k hkn
      have g1k : g' 1 k = sb (τ k) := by rw [hf.1 1 k (by omega)]; exact tb.2
      have enx : k + 1 - tA n τ e = (k - tA n τ e) + 1 := by omega
      refine vX5_step_132 ?_
      rw [f1, a6]
      refine ⟨fun z => absurd z (nI_ge hkn (by omega)), fun _ => IX_l (by omega) ?_⟩
      rw [g1k]
      refine X_kindOf tb.1 ⟨fun _ => IX_e a6 (by omega) (IX_e a6 (by omega) ?_), fun y => ?_⟩
      · rw [g1k, a6, nI_add]
        refine ih (k + 1) _ _ (by omega) (by omega) (by rw [← scn_y hkn hPk]; exact hsc) ⟨fun a q z => by rw [uI_d (by omega), uI_d (by omega)]; exact hf.1 a q z, fun a q z => ?_⟩ (by rw [uI_n (by decide), uI_n (by decide)]; exact a9) (by rw [uI_n (by decide), uI_n (by decide)]; exact a5) (by rw [uI_n (by decide), uI_n (by decide)]; exact a4) uI_s (fun z => ?_) (fun z => ?_)
        · have : ¬ (a = 58 ∧ q = 7) := z
          by_cases c : a = 58
          · subst c
            rw [uJ_n (fun y => z ⟨rfl, y⟩)]; exact hf.2 58 q z
          · rw [uJ_o c]; exact hf.2 a q z
        · rcases hk with ⟨rfl, rfl, rfl⟩ | ⟨rfl, rfl, rfl⟩
          · have hr := isSm_r.mp hPk
            have es : sb (τ k) = nI (τ k) := by
              rcases sb_c _ tb.1 with ⟨_, e1⟩ | ⟨e1, _⟩
              · exact e1
              · omega
            rw [uJ_s, aW rfl, es, pk_sub (by omega), nI_add, nI_l (by omega), lN_mul, lN_add, enx]
            show _ = lN (wdN τ (tA n τ e) (k - tA n τ e) * 32 + (τ (tA n τ e + (k - tA n τ e)) - 96))
            rw [show tA n τ e + (k - tA n τ e) = k by omega]
            congr 2
            omega
          · omega
        · rcases hk with ⟨rfl, rfl, rfl⟩ | ⟨rfl, rfl, rfl⟩
          · omega
          · have hr := isDg_r.mp hPk
            have es : sb (τ k) = nI (τ k) := by
              rcases sb_c _ tb.1 with ⟨_, e1⟩ | ⟨e1, _⟩
              · exact e1
              · omega
            rw [uI_n (by decide), uI_s, aV rfl, es, pk_sub (by omega), pk_mul, nI_add, enx]
            show _ = nI (nmb τ (tA n τ e) (k - tA n τ e) * 10 + (τ (tA n τ e + (k - tA n τ e)) - 48))
            rw [show tA n τ e + (k - tA n τ e) = k by omega]
      · exfalso
        apply y
        rw [a4]
        rcases hk with ⟨rfl, rfl, rfl⟩ | ⟨rfl, rfl, rfl⟩
        · rw [if_pos hPk]
        · have : ¬ isSm (τ k) = true := fun y => by have a := isSm_r.mp y; have b := isDg_r.mp hPk; omega
          rw [if_neg this, if_pos hPk]
  -- behind the blanks
  have tokn : ∀ g' , StF g g' j j → g' 58 9 = g 58 5 → g' 58 6 = nI (tA n τ e) → G (d + 1) 31 46 [(0, .ref 58)] [] r g' j (rkV K) := by
    intro g' hf a9 a6
    have f1 : g' 58 1 = nI n := by rw [hf.1 58 1 (by omega)]; exact h1
    have fj : ∀ a q, ¬ (a = 58 ∧ q = 7) → (uJ j 58 7 (lN 0)) a q = j a q := fun a q z => by
      by_cases c : a = 58
      · subst c; rw [uJ_n (fun y => z ⟨rfl, y⟩)]
      · rw [uJ_o c]
    refine vX5_step_46 ?_
    rw [f1, a6]
    have fr2 : ∀ v : Int32, ∀ a q, ¬ (a = 58 ∧ (q = 4 ∨ q = 5 ∨ q = 6 ∨ q = 8 ∨ q = 9)) → (uI (uI (uI g' 58 5 (nI (tA n τ e))) 58 8 (nI 0)) 58 4 v) a q = g a q := fun v a q z => by rw [uI_d (by omega), uI_d (by omega), uI_d (by omega)]; exact hf.1 a q z
    refine ⟨fun z => ?_, fun z => ?_⟩
    · have hge : n ≤ tA n τ e := le_n (by omega) (by omega) z
      have eK : tK n τ e = 0 := by unfold tK; rw [if_pos hge]
      have eZ : tZ n τ e = tA n τ e := by unfold tZ; rw [if_pos hge]
      refine vX5_step_92 ⟨fun y => absurd y (by decide +kernel), fun _ => ⟨fun y => absurd y (by decide +kernel), fun _ => ⟨fun y => absurd y (by decide +kernel), fun _ => ?_⟩⟩⟩
      refine fin _ _ (hT.st (fr2 _)) ⟨fr2 _, fj⟩ ?_ ?_ (by rw [uI_s, eK]) (fun _ => ?_) (fun y => by omega) (fun y => by omega)
      · rw [uI_n (by decide), uI_n (by decide), uI_n (by decide)]; exact a9
      · rw [uI_n (by decide), uI_n (by decide), uI_s]
      · rw [uI_n (by decide), uI_n (by decide), uI_n (by decide), a6, eZ]
    · have hlt : tA n τ e < n := by rw [← Nat.not_le]; exact fun y => z (nI_le y (by omega))
      refine IX_l (by omega) ?_
      rw [hf.1 1 _ (by omega), (ht _ hlt).2]
      refine X_kindOf (ht _ hlt).1 (vX5_step_92 ?_)
      by_cases c1 : isSm (τ (tA n τ e)) = true
      · rw [if_pos c1]
        refine ⟨fun y => absurd y (by decide +kernel), fun _ => ⟨fun _ => ?_, fun y => absurd rfl y⟩⟩
        have hs := scn_ok (τ := τ) (P := isSm) ha.2
        refine run 1 isSm 8 (Or.inl ⟨rfl, rfl, rfl⟩) hlt c1 (scn n τ isSm (tA n τ e) - tA n τ e) (tA n τ e) _ _ (by omega) (Nat.le_refl _) rfl ⟨fr2 _, fj⟩ ?_ ?_ uI_s ?_ (fun _ => ?_) (fun y => by omega)
        · rw [uI_n (by decide), uI_n (by decide), uI_n (by decide)]; exact a9
        · rw [uI_n (by decide), uI_n (by decide), uI_s]
        · rw [uI_n (by decide), uI_n (by decide), uI_n (by decide)]; exact a6
        · rw [uJ_s, Nat.sub_self]; rfl
      · by_cases c2 : isDg (τ (tA n τ e)) = true
        · rw [if_neg c1, if_pos c2]
          refine ⟨fun y => absurd y (by decide +kernel), fun _ => ⟨fun y => absurd y (by decide +kernel), fun _ => ⟨fun _ => ?_, fun y => absurd rfl y⟩⟩⟩
          have hs := scn_ok (τ := τ) (P := isDg) ha.2
          refine run 2 isDg 3 (Or.inr ⟨rfl, rfl, rfl⟩) hlt c2 (scn n τ isDg (tA n τ e) - tA n τ e) (tA n τ e) _ _ (by omega) (Nat.le_refl _) rfl ⟨fr2 _, fj⟩ ?_ ?_ uI_s ?_ (fun y => by omega) (fun _ => ?_)
          · rw [uI_n (by decide), uI_n (by decide), uI_n (by decide)]; exact a9
          · rw [uI_n (by decide), uI_n (by decide), uI_s]
          · rw [uI_n (by decide), uI_n (by decide), uI_n (by decide)]; exact a6
          · rw [uI_n (by decide), uI_s, Nat.sub_self]; rfl
        · rw [if_neg c1, if_neg c2]
          have eZ : tZ n τ e = tA n τ e + 1 := by unfold tZ; rw [if_neg (by omega), if_neg c1, if_neg c2]
          by_cases c3 : τ (tA n τ e) = 59
          · rw [if_pos c3]
            have eK : tK n τ e = 3 := by unfold tK; rw [if_neg (by omega), if_neg c1, if_neg c2, if_pos c3]
            refine ⟨fun _ => ?_, fun y => absurd rfl y⟩
            rw [uI_n (show (6 : Nat) ≠ 8 by decide), uI_n (show (6 : Nat) ≠ 5 by decide), a6, nI_add]
            have fr3 : ∀ a q, ¬ (a = 58 ∧ (q = 4 ∨ q = 5 ∨ q = 6 ∨ q = 8 ∨ q = 9)) → (uI (uI (uI (uI g' 58 5 (nI (tA n τ e))) 58 8 (nI 0)) 58 4 (nI 3)) 58 6 (nI (tA n τ e + 1))) a q = g a q := fun a q z => by rw [uI_d (by omega)]; exact fr2 _ a q z
            refine fin _ _ (hT.st fr3) ⟨fr3, fj⟩ ?_ ?_ (by rw [uI_n (by decide), uI_s, eK]) (fun _ => by rw [uI_s, eZ]) (fun y => by omega) (fun y => by omega)
            · rw [uI_n (by decide), uI_n (by decide), uI_n (by decide), uI_n (by decide)]; exact a9
            · rw [uI_n (by decide), uI_n (by decide), uI_n (by decide), uI_s]
          · rw [if_neg c3]
            have eK : tK n τ e = 4 := by unfold tK; rw [if_neg (by omega), if_neg c1, if_neg c2, if_neg c3]
            refine ⟨fun y => absurd y (by decide +kernel), fun _ => ⟨fun y => absurd y (by decide +kernel), fun _ => ⟨fun y => absurd y (by decide +kernel), fun _ => ?_⟩⟩⟩
            refine fin _ _ (hT.st (fr2 _)) ⟨fr2 _, fj⟩ ?_ ?_ (by rw [uI_s, eK]) (fun y => absurd eK y) (fun y => by omega) (fun y => by omega)
            · rw [uI_n (by decide), uI_n (by decide), uI_n (by decide)]; exact a9
            · rw [uI_n (by decide), uI_n (by decide), uI_s]
  -- the blanks
  have blanks : ∀ q k g', k + q = tA n τ e → e ≤ k → scn n τ isBl k = tA n τ e → StF g g' j j → g' 58 9 = g 58 5 → g' 58 6 = nI k → G (d + 1) 31 8 [(0, .ref 58)] [] r g' j (rkV K) := by
    intro q
    have hs := scn_ok (τ := τ) (P := isBl) he
    induction q with
    | zero =>
      intro k g' hq hek hsc hf a9 a6
      have ek : k = tA n τ e := by omega
      subst ek
      have f1 : g' 58 1 = nI n := by rw [hf.1 58 1 (by omega)]; exact h1
      refine vX5_step_8 ?_
      rw [f1, a6]
      refine ⟨fun _ => tokn g' hf a9 a6, fun z => ?_⟩
      have hlt : tA n τ e < n := by rw [← Nat.not_le]; exact fun y => z (nI_le y (by omega))
      refine IX_l (by omega) ?_
      rw [hf.1 1 _ (by omega), (ht _ hlt).2, sb_e (ht _ hlt).1 (by decide)]
      exact ⟨fun y => absurd (isBl_r.mpr y) (hs.2.2.2 hlt), fun _ => tokn g' hf a9 a6⟩
    | succ q ih =>
      intro k g' hq hek hsc hf a9 a6
      have hkn : k < n := by omega
      have hPk : isBl (τ k) = true := hs.2.2.1 k hek (show k < tA n τ e by omega)
      have f1 : g' 58 1 = nI n := by rw [hf.1 58 1 (by omega)]; exact h1
      refine vX5_step_8 ?_
      rw [f1, a6]
      refine ⟨fun z => absurd z (nI_ge hkn (by omega)), fun _ => IX_l (by omega) ?_⟩
      rw [hf.1 1 k (by omega), (ht k hkn).2, sb_e (ht k hkn).1 (by decide)]
      refine ⟨fun _ => ?_, fun y => absurd (isBl_r.mp hPk) y⟩
      rw [nI_add]
      exact ih (k + 1) _ (by omega) (by omega) (by rw [← scn_y hkn hPk]; exact hsc) ⟨fun a q z => by rw [uI_d (by omega)]; exact hf.1 a q z, hf.2⟩ (by rw [uI_n (by decide)]; exact a9) uI_s
  exact vX5_step_0 (blanks (tA n τ e - e) e _ (by omega) (Nat.le_refl _) rfl ⟨fun a q z => uI_d (by omega), fun _ _ _ => rfl⟩ uI_s (by rw [uI_n (by decide)]; exact h6))
end
