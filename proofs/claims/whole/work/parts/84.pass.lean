/-! THE TEXT: the reference's pass; words on both sides -/
def mK (k : Nat) : Nat := match k with
  | 0 => 0
  | 1 => 2
  | 2 => 3
  | 3 => 59
  | _ => 1
def TpN (n : Nat) (τ : Nat → Nat) (g : Gi) : Prop := n ≤ 1000 ∧ (∀ i, i < n → τ i < 256 ∧ g 264 i = nI (τ i)) ∧ g 263 3 = nI n
def RdM (n : Nat) (τ : Nat → Nat) (e : Nat) (g : Gi) : Prop := TpN n τ g ∧ e ≤ n ∧ g 263 4 = nI (tA n τ e) ∧ g 263 5 = nI (tZ n τ e) ∧ g 263 6 = nI (mK (tK n τ e)) ∧ (tK n τ e = 1 → g 263 8 = nI (tZ n τ e - tA n τ e) ∧ ∀ k, k < tZ n τ e - tA n τ e → g 265 k = nI (τ (tA n τ e + k))) ∧ (tK n τ e = 2 → g 263 7 = nI (tV n τ e))
/-- what a pass changes -/
def PsF (g g' : Gi) : Prop := ∀ a q, ¬ (a = 265 ∨ (a = 263 ∧ (q = 4 ∨ q = 5 ∨ q = 6 ∨ q = 7 ∨ q = 8))) → g' a q = g a q
section
variable {n e d : Nat} {τ : Nat → Nat} {r : Rr} {g g' : Gi} {j j' : Gl}
theorem PsF.rf : PsF g g := fun _ _ _ => rfl
theorem PsF.tr {g2 : Gi} (h : PsF g g') (h' : PsF g' g2) : PsF g g2 := fun a q z => (h' a q z).trans (h a q z)
theorem TpN.ps (h : TpN n τ g) (hf : PsF g g') : TpN n τ g' := ⟨h.1, fun i hi => by rw [hf 264 i (by omega)]; exact h.2.1 i hi, by rw [hf 263 3 (by omega)]; exact h.2.2⟩
theorem M_look {K : Int32 → Rr → Gi → Gl → Prop} (hT : TpN n τ g) {k : Nat} (hk : k ≤ n) (h1 : k < n → K (nI (τ k)) r g j) (h0 : n ≤ k → K (-1) r g j) : Cm d 149 [.ref 263, .int (nI k)] r g j (rkI K) := by
  obtain ⟨hn, ht, h3⟩ := hT
  refine vX10_look_0 ?_
  rw [h3, nI_leI (by omega) (by omega)]
  refine ⟨fun z => h0 z, fun z => IX_l (by omega) ?_⟩
  have := (ht k (by omega)).2
  show K (g 264 k) r g j
  rw [this]
  exact h1 (by omega)
theorem m1lt {m : Nat} (h : m < 1000) : (-1 : Int32) < nI m := by
  rw [Int32.lt_iff_toInt_lt, nI_toInt (by omega)]
  have : (-1 : Int32).toInt = -1 := by decide +kernel
  omega
theorem m1ne {m : Nat} (h : m < 1000) : ¬ (-1 : Int32) = nI m := fun z => by
  have := m1lt h
  rw [← z, Int32.lt_iff_toInt_lt] at this
  omega
theorem M_isSmall {K : Int32 → Rr → Gi → Gl → Prop} {c : Nat} (hc : c < 256) (h : K (nI (if isSm c = true then 1 else 0)) r g j) : Cm d 150 [.int (nI c)] r g j (rkI K) := by
  refine vX10_isSmall_0 ?_
  rw [nI_ltI (by omega) (by decide), nI_ltI (by decide) (by omega)]
  have hs := isSm_r (c := c)
  refine ⟨fun z => ⟨bo0, ?_⟩, fun z => ⟨fun z2 => ⟨bo0, ?_⟩, fun z2 => ⟨bo1, ?_⟩⟩⟩
  · rw [if_neg (fun y => by have := hs.mp y; omega)] at h; exact h
  · rw [if_neg (fun y => by have := hs.mp y; omega)] at h; exact h
  · rw [if_pos (hs.mpr ⟨by omega, by omega⟩)] at h; exact h
theorem M_isSmall1 {K : Int32 → Rr → Gi → Gl → Prop} (h : K (nI 0) r g j) : Cm d 150 [.int (-1)] r g j (rkI K) := vX10_isSmall_0 ⟨fun _ => ⟨bo0, h⟩, fun z => absurd (m1lt (by decide)) z⟩
theorem M_isDigit {K : Int32 → Rr → Gi → Gl → Prop} {c : Nat} (hc : c < 256) (h : K (nI (if isDg c = true then 1 else 0)) r g j) : Cm d 151 [.int (nI c)] r g j (rkI K) := by
  refine vX10_isDigit_0 ?_
  rw [nI_ltI (by omega) (by decide), nI_ltI (by decide) (by omega)]
  have hs := isDg_r (c := c)
  refine ⟨fun z => ⟨bo0, ?_⟩, fun z => ⟨fun z2 => ⟨bo0, ?_⟩, fun z2 => ⟨bo1, ?_⟩⟩⟩
  · rw [if_neg (fun y => by have := hs.mp y; omega)] at h; exact h
  · rw [if_neg (fun y => by have := hs.mp y; omega)] at h; exact h
  · rw [if_pos (hs.mpr ⟨by omega, by omega⟩)] at h; exact h
theorem M_isDigit1 {K : Int32 → Rr → Gi → Gl → Prop} (h : K (nI 0) r g j) : Cm d 151 [.int (-1)] r g j (rkI K) := vX10_isDigit_0 ⟨fun _ => ⟨bo0, h⟩, fun z => absurd (m1lt (by decide)) z⟩
theorem M_pass {K : Rr → Gi → Gl → Prop} (hT : TpN n τ g) (he : e ≤ n) (h5 : g 263 5 = nI e) (h : ∀ g', RdM n τ e g' → PsF g g' → K r g' j) : Cm (d + 1) 152 [.ref 263] r g j (rkV K) := by
  obtain ⟨hn, ht, h3⟩ := id hT
  have ha := tA_b (τ := τ) he
  -- the run of letters
  have runW : tA n τ e < n → isSm (τ (tA n τ e)) = true → ∀ q k g', k + q = scn n τ isSm (tA n τ e) → tA n τ e ≤ k → PsF g g' → g' 263 4 = nI (tA n τ e) → g' 263 8 = nI (k - tA n τ e) → (∀ i, i < k - tA n τ e → i < 8 → g' 265 i = nI (τ (tA n τ e + i))) → G (d + 1) 152 67 [(0, .ref 263), (1, .int (nI k))] [] r g' j (rkV K) := by
    intro hlt hP q
    have hs := scn_ok (τ := τ) (P := isSm) ha.2
    induction q with
    | zero =>
      intro k g' hq hak hf a4 a8 aL
      have ek : k = scn n τ isSm (tA n τ e) := by omega
      have ez : tZ n τ e = k := by unfold tZ; rw [if_neg (by omega), if_pos hP, ek]
      have eK : tK n τ e = if k ≤ tA n τ e + 8 then 1 else 4 := by unfold tK; rw [if_neg (by omega), if_pos hP, ek]
      have hT' := hT.ps hf
      have last : ((g' 263 8 ≤ nI 8 → G (d + 1) 152 137 [] [.int (nI 2), .ref 263] r (uI g' 263 5 (nI k)) j (rkV K)) ∧ (¬ g' 263 8 ≤ nI 8 → G (d + 1) 152 137 [] [.int (nI 1), .ref 263] r (uI g' 263 5 (nI k)) j (rkV K))) := by
        rw [a8, nI_leI (by omega) (by decide)]
        have fr : ∀ v : Int32, PsF g (uI (uI g' 263 5 (nI k)) 263 6 v) := fun v a q z => by rw [uI_d (by omega), uI_d (by omega)]; exact hf a q z
        refine ⟨fun z => vX10_pass_137 (h _ ⟨hT.ps (fr _), he, ?_, ?_, ?_, fun _ => ⟨?_, fun i hi => ?_⟩, fun z2 => ?_⟩ (fr _)), fun z => vX10_pass_137 (h _ ⟨hT.ps (fr _), he, ?_, ?_, ?_, fun z2 => ?_, fun z2 => ?_⟩ (fr _))⟩
        · rw [uI_n (by decide), uI_n (by decide)]; exact a4
        · rw [uI_n (by decide), uI_s, ez]
        · rw [uI_s, eK, if_pos (by omega)]; rfl
        · rw [uI_n (by decide), uI_n (by decide), a8, ez]
        · rw [uI_o (by decide), uI_o (by decide)]; exact aL i (by omega) (by omega)
        · rw [eK, if_pos (by omega)] at z2; omega
        · rw [uI_n (by decide), uI_n (by decide)]; exact a4
        · rw [uI_n (by decide), uI_s, ez]
        · rw [uI_s, eK, if_neg (by omega)]; rfl
        · rw [eK, if_neg (by omega)] at z2; omega
        · rw [eK, if_neg (by omega)] at z2; omega
      refine vX10_pass_67 (M_look hT' (by omega) (fun z => M_isSmall (ht k z).1 ⟨fun _ => last, fun y => ?_⟩) (fun z => M_isSmall1 ⟨fun _ => last, fun y => absurd n00 y⟩))
      have hno := hs.2.2.2 (by omega)
      rw [← ek] at hno
      rw [if_neg hno] at y
      exact absurd n00 y
    | succ q ih =>
      intro k g' hq hak hf a4 a8 aL
      have hkn : k < n := by omega
      have hPk := hs.2.2.1 k hak (by omega)
      have hT' := hT.ps hf
      have nx : ∀ g2, PsF g g2 → g2 263 4 = nI (tA n τ e) → g2 263 8 = nI (k - tA n τ e) → (∀ i, i < k + 1 - tA n τ e → i < 8 → g2 265 i = nI (τ (tA n τ e + i))) → G (d + 1) 152 101 [(0, .ref 263), (1, .int (nI k))] [] r g2 j (rkV K) := by
        intro g2 f2 b4 b8 bL
        refine vX10_pass_101 ?_
        rw [b8, nI_add, nI_add, show k - tA n τ e + 1 = k + 1 - tA n τ e by omega]
        exact ih (k + 1) _ (by omega) (by omega) (fun a q z => by rw [uI_d (by omega)]; exact f2 a q z) (by rw [uI_n (by decide)]; exact b4) uI_s (fun i h1 h2 => by rw [uI_o (by decide)]; exact bL i h1 h2)
      refine vX10_pass_67 (M_look hT' (by omega) (fun z => M_isSmall (ht k z).1 ⟨fun y => ?_, fun _ => ?_⟩) (fun z => by omega))
      · rw [if_pos hPk] at y; exact absurd y n10
      · rw [a8, nI_leI (by decide) (by omega)]
        refine ⟨fun z => nx g' hf a4 a8 (fun i h1 h2 => aL i (by omega) h2), fun z => M_look hT' (by omega) (fun z2 => IX_l (by omega) (nx _ (fun a q z => by rw [uI_o (by omega)]; exact hf a q z) (by rw [uI_o (by decide)]; exact a4) (by rw [uI_o (by decide)]; exact a8) (fun i h1 h2 => ?_))) (fun z2 => by omega)⟩
        by_cases c : i = k - tA n τ e
        · subst c
          rw [uI_s, show tA n τ e + (k - tA n τ e) = k by omega]
        · rw [uI_n c]; exact aL i (by omega) h2
  -- the run of digits
  have runD : tA n τ e < n → isDg (τ (tA n τ e)) = true → ∀ q k g', k + q = scn n τ isDg (tA n τ e) → tA n τ e ≤ k → PsF g g' → g' 263 4 = nI (tA n τ e) → (k ≤ tA n τ e + 3 → g' 263 7 = nI (nmb τ (tA n τ e) (k - tA n τ e))) → G (d + 1) 152 152 [(0, .ref 263), (1, .int (nI k)), (3, .int (nI (k - tA n τ e)))] [] r g' j (rkV K) := by
    intro hlt hP q
    have hs := scn_ok (τ := τ) (P := isDg) ha.2
    have nS : ¬ isSm (τ (tA n τ e)) = true := fun y => by have a := isSm_r.mp y; have b := isDg_r.mp hP; omega
    induction q with
    | zero =>
      intro k g' hq hak hf a4 a7
      have ek : k = scn n τ isDg (tA n τ e) := by omega
      have ez : tZ n τ e = k := by unfold tZ; rw [if_neg (by omega), if_neg nS, if_pos hP, ek]
      have eK : tK n τ e = if k ≤ tA n τ e + 3 then 2 else 4 := by unfold tK; rw [if_neg (by omega), if_neg nS, if_pos hP, ek]
      have hT' := hT.ps hf
      have last : ((nI (k - tA n τ e) ≤ nI 3 → G (d + 1) 152 213 [] [.int (nI 3), .ref 263] r (uI g' 263 5 (nI k)) j (rkV K)) ∧ (¬ nI (k - tA n τ e) ≤ nI 3 → G (d + 1) 152 213 [] [.int (nI 1), .ref 263] r (uI g' 263 5 (nI k)) j (rkV K))) := by
        rw [nI_leI (by omega) (by decide)]
        have fr : ∀ v : Int32, PsF g (uI (uI g' 263 5 (nI k)) 263 6 v) := fun v a q z => by rw [uI_d (by omega), uI_d (by omega)]; exact hf a q z
        refine ⟨fun z => vX10_pass_213 (h _ ⟨hT.ps (fr _), he, ?_, ?_, ?_, fun z2 => ?_, fun _ => ?_⟩ (fr _)), fun z => vX10_pass_213 (h _ ⟨hT.ps (fr _), he, ?_, ?_, ?_, fun z2 => ?_, fun z2 => ?_⟩ (fr _))⟩
        · rw [uI_n (by decide), uI_n (by decide)]; exact a4
        · rw [uI_n (by decide), uI_s, ez]
        · rw [uI_s, eK, if_pos (by omega)]; rfl
        · rw [eK, if_pos (by omega)] at z2; omega
        · rw [uI_n (by decide), uI_n (by decide)]
          unfold tV
          rw [ez]; exact a7 (by omega)
        · rw [uI_n (by decide), uI_n (by decide)]; exact a4
        · rw [uI_n (by decide), uI_s, ez]
        · rw [uI_s, eK, if_neg (by omega)]; rfl
        · rw [eK, if_neg (by omega)] at z2; omega
        · rw [eK, if_neg (by omega)] at z2; omega
      refine vX10_pass_152 (M_look hT' (by omega) (fun z => M_isDigit (ht k z).1 ⟨fun _ => last, fun y => ?_⟩) (fun z => M_isDigit1 ⟨fun _ => last, fun y => absurd n00 y⟩))
      have hno := hs.2.2.2 (by omega)
      rw [← ek] at hno
      rw [if_neg hno] at y
      exact absurd n00 y
    | succ q ih =>
      intro k g' hq hak hf a4 a7
      have hkn : k < n := by omega
      have hPk := hs.2.2.1 k hak (by omega)
      have hr := isDg_r.mp hPk
      have hT' := hT.ps hf
      have nx : ∀ g2, PsF g g2 → g2 263 4 = nI (tA n τ e) → (k + 1 ≤ tA n τ e + 3 → g2 263 7 = nI (nmb τ (tA n τ e) (k + 1 - tA n τ e))) → G (d + 1) 152 188 [(0, .ref 263), (1, .int (nI k)), (3, .int (nI (k - tA n τ e)))] [] r g2 j (rkV K) := by
        intro g2 f2 b4 b7
        refine vX10_pass_188 ?_
        rw [nI_add, nI_add, show k - tA n τ e + 1 = k + 1 - tA n τ e by omega]
        exact ih (k + 1) g2 (by omega) (by omega) f2 b4 b7
      refine vX10_pass_152 (M_look hT' (by omega) (fun z => M_isDigit (ht k z).1 ⟨fun y => ?_, fun _ => ?_⟩) (fun z => by omega))
      · rw [if_pos hPk] at y; exact absurd y n10
      · rw [nI_leI (by decide) (by omega)]
        refine ⟨fun z => nx g' hf a4 (fun z2 => by omega), fun z => M_look hT' (by omega) (fun z2 => nx _ (fun a q z => by rw [uI_d (by omega)]; exact hf a q z) (by rw [uI_n (by decide)]; exact a4) (fun z3 => ?_)) (fun z2 => by omega)⟩
        rw [uI_s, a7 (by omega), pk_mul, nI_add, pk_sub (by omega), show k + 1 - tA n τ e = (k - tA n τ e) + 1 by omega]
        show _ = nI (nmb τ (tA n τ e) (k - tA n τ e) * 10 + (τ (tA n τ e + (k - tA n τ e)) - 48))
        rw [show tA n τ e + (k - tA n τ e) = k by omega]
        congr 1
        omega
  have blanks : ∀ q k, k + q = tA n τ e → e ≤ k → G (d + 1) 152 5 [(0, .ref 263), (1, .int (nI k))] [] r g j (rkV K) := by
    intro q
    have hs := scn_ok (τ := τ) (P := isBl) he
    induction q with
    | zero =>
      intro k hq hek
      have ek : k = tA n τ e := by omega
      subst ek
      have fr4 : PsF g (uI g 263 4 (nI (tA n τ e))) := fun a q z => uI_d (by omega)
      have fr0 : PsF g (uI (uI (uI g 263 4 (nI (tA n τ e))) 263 8 (nI 0)) 263 7 (nI 0)) := fun a q z => by rw [uI_d (by omega), uI_d (by omega), uI_d (by omega)]
      refine vX10_pass_5 (M_look hT (by omega) (fun z => ⟨fun y => ?_, fun _ => M_look (hT.ps fr4) (by omega) (fun _ => ⟨fun y => absurd y.symm (m1ne (by have := (ht _ z).1; omega)), fun _ => M_isSmall (ht _ z).1 ⟨fun y => M_isDigit (ht _ z).1 ⟨fun y2 => ?_, fun y2 => ?_⟩, fun y => ?_⟩⟩) (fun z2 => by omega)⟩) (fun z => ⟨fun y => absurd y (m1ne (by decide)), fun _ => M_look (hT.ps fr4) (by omega) (fun z2 => by omega) (fun _ => ⟨fun _ => ?_, fun y => absurd rfl y⟩)⟩))
      · rw [nI_eq (by have := (ht _ z).1; omega) (by decide)] at y
        exact absurd (isBl_r.mpr y) (hs.2.2.2 z)
      · -- a single sign
        have c1 : ¬ isSm (τ (tA n τ e)) = true := fun c => by rw [if_pos c] at y; exact absurd y n10
        have c2 : ¬ isDg (τ (tA n τ e)) = true := fun c => by rw [if_pos c] at y2; exact absurd y2 n10
        have eZ : tZ n τ e = tA n τ e + 1 := by unfold tZ; rw [if_neg (by omega), if_neg c1, if_neg c2]
        have eK : tK n τ e = if τ (tA n τ e) = 59 then 3 else 4 := by unfold tK; rw [if_neg (by omega), if_neg c1, if_neg c2]
        rw [nI_add, nI_eq (by have := (ht _ z).1; omega) (by decide)]
        have fr : ∀ v : Int32, PsF g (uI (uI (uI (uI (uI g 263 4 (nI (tA n τ e))) 263 8 (nI 0)) 263 7 (nI 0)) 263 5 (nI (tA n τ e + 1))) 263 6 v) := fun v a q z => by rw [uI_d (by omega), uI_d (by omega)]; exact fr0 a q z
        refine ⟨fun c3 => vX10_pass_238 (h _ ⟨hT.ps (fr _), he, ?_, ?_, ?_, fun z2 => ?_, fun z2 => ?_⟩ (fr _)), fun c3 => vX10_pass_238 (h _ ⟨hT.ps (fr _), he, ?_, ?_, ?_, fun z2 => ?_, fun z2 => ?_⟩ (fr _))⟩
        · rw [uI_n (by decide), uI_n (by decide), uI_n (by decide), uI_n (by decide), uI_s]
        · rw [uI_n (by decide), uI_s, eZ]
        · rw [uI_s, eK, if_pos c3, c3]; rfl
        · rw [eK, if_pos c3] at z2; omega
        · rw [eK, if_pos c3] at z2; omega
        · rw [uI_n (by decide), uI_n (by decide), uI_n (by decide), uI_n (by decide), uI_s]
        · rw [uI_n (by decide), uI_s, eZ]
        · rw [uI_s, eK, if_neg c3]; rfl
        · rw [eK, if_neg c3] at z2; omega
        · rw [eK, if_neg c3] at z2; omega
      · have c2 : isDg (τ (tA n τ e)) = true := by
          cases c : isDg (τ (tA n τ e)) with
          | true => rfl
          | false => rw [c] at y2; exact absurd n00 y2
        have hs2 := scn_ok (τ := τ) (P := isDg) ha.2
        have := runD z c2 (scn n τ isDg (tA n τ e) - tA n τ e) (tA n τ e) _ (by omega) (Nat.le_refl _) fr0 (by rw [uI_n (by decide), uI_n (by decide), uI_s]) (fun _ => by rw [uI_s, Nat.sub_self]; rfl)
        rw [Nat.sub_self] at this
        exact this
      · have c1 : isSm (τ (tA n τ e)) = true := by
          cases c : isSm (τ (tA n τ e)) with
          | true => rfl
          | false => rw [c] at y; exact absurd n00 y
        have hs2 := scn_ok (τ := τ) (P := isSm) ha.2
        exact runW z c1 (scn n τ isSm (tA n τ e) - tA n τ e) (tA n τ e) _ (by omega) (Nat.le_refl _) fr0 (by rw [uI_n (by decide), uI_n (by decide), uI_s]) (by rw [uI_n (by decide), uI_s, Nat.sub_self]) (fun i h1 => by omega)
      · have eK : tK n τ e = 0 := by unfold tK; rw [if_pos z]
        have eZ : tZ n τ e = tA n τ e := by unfold tZ; rw [if_pos z]
        have fr : PsF g (uI (uI (uI (uI (uI g 263 4 (nI (tA n τ e))) 263 8 (nI 0)) 263 7 (nI 0)) 263 6 (nI 0)) 263 5 (nI (tA n τ e))) := fun a q z => by rw [uI_d (by omega), uI_d (by omega)]; exact fr0 a q z
        refine h _ ⟨hT.ps fr, he, ?_, ?_, ?_, fun z2 => by omega, fun z2 => by omega⟩ fr
        · rw [uI_n (by decide), uI_n (by decide), uI_n (by decide), uI_n (by decide), uI_s]
        · rw [uI_s, eZ]
        · rw [uI_n (by decide), uI_s, eK]; rfl
    | succ q ih =>
      intro k hq hek
      have hkn : k < n := by omega
      have hPk : isBl (τ k) = true := hs.2.2.1 k hek (show k < tA n τ e by omega)
      refine vX10_pass_5 (M_look hT (by omega) (fun z => ⟨fun _ => ?_, fun y => ?_⟩) (fun z => by omega))
      · rw [nI_add]; exact ih (k + 1) (by omega) (by omega)
      · rw [isBl_r.mp hPk] at y; exact absurd rfl y
  refine vX10_pass_0 ?_
  rw [h5]
  exact blanks (tA n τ e - e) e (by omega) (Nat.le_refl _)
end
