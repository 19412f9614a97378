/-! SPECS: weight -/
section
variable {n p b d : Nat} {R Y : Nat → Nat} {r : Rr} {g : Gi} {j : Gl} {K : Int32 → Rr → Gi → Gl → Prop} {x x1 x2 x3 : Int32} {Q : QT}
def smF (f : Nat → Nat) : Nat → Nat
  | 0 => 0
  | c + 1 => smF f c + f c
theorem smF_congr {f h : Nat → Nat} : ∀ m, (∀ c, c < m → f c = h c) → smF f m = smF h m := by
  intro m
  induction m with
  | zero => intro _; rfl
  | succ m ih => intro e; unfold smF; rw [ih (fun c hc => e c (by omega)), e m (by omega)]
theorem smF_one {f h : Nat → Nat} {c0 w : Nat} : ∀ m, c0 < m → (∀ c, c < m → c ≠ c0 → h c = f c) → h c0 = f c0 + w → smF h m = smF f m + w := by
  intro m
  induction m with
  | zero => intro hc; omega
  | succ m ih =>
    intro hc e e0
    unfold smF
    by_cases z : c0 = m
    · subst z
      rw [smF_congr c0 (fun c hc2 => e c (by omega) (by omega)), e0]
      omega
    · rw [ih (by omega) (fun c hc2 h2 => e c (by omega) h2) e0, e m (by omega) (by omega)]
      omega
theorem smF_add {f h l : Nat → Nat} : ∀ m, (∀ c, c < m → l c = f c + h c) → smF l m = smF f m + smF h m := by
  intro m
  induction m with
  | zero => intro _; rfl
  | succ m ih => intro e; unfold smF; rw [ih (fun c hc => e c (by omega)), e m (by omega)]; omega
/-- a crate is among the first i of stack k -/
def amg (Y : Nat → Nat) (k i c : Nat) : Prop := ∃ z, z < i ∧ Y (75 + 5 * k + z) = c + 1
noncomputable def amW (R Y : Nat → Nat) (k i c : Nat) : Nat := @ite Nat (amg Y k i c) (Classical.propDecidable _) (R (24 + 5 * c)) 0
theorem stW_sum (hY : YO n R Y) {k : Nat} (hk : k < 9) : ∀ i, i ≤ Y (120 + k) → stW R Y k i = smF (amW R Y k i) (R 5) := by
  intro i
  induction i with
  | zero =>
    intro _
    have : ∀ m, smF (amW R Y k 0) m = 0 := by
      intro m
      induction m with
      | zero => rfl
      | succ m ih =>
        unfold smF
        rw [ih]
        unfold amW
        rw [if_neg (fun ⟨z, h, _⟩ => by omega)]
    rw [this]; rfl
  | succ i ih =>
    intro hi
    have h1 := (hY.1 k hk).2.2 i (by omega)
    unfold stW
    rw [ih (by omega)]
    symm
    refine smF_one (c0 := Y (75 + 5 * k + i) - 1) (R 5) (by omega) (fun c hc hne => ?_) ?_
    · unfold amW
      by_cases z : amg Y k i c
      · rw [if_pos z, if_pos (by obtain ⟨q, a, e⟩ := z; exact ⟨q, by omega, e⟩)]
      · rw [if_neg z, if_neg]
        rintro ⟨q, a, e⟩
        by_cases e2 : q = i
        · subst e2; omega
        · exact z ⟨q, by omega, e⟩
    · unfold amW
      rw [if_pos ⟨i, by omega, by omega⟩, if_neg, Nat.zero_add]
      rintro ⟨q, a, e⟩
      have := hY.2.1 k q i hk (by omega) (by omega) (by omega)
      omega
theorem amg_iff (hR : RO b R) (hY : YO n R Y) {s t c : Nat} (hs : s < 3) (ht : t < 3) (hc : c < R 5) : amg Y (3 * s + t) (Y (120 + (3 * s + t))) c ↔ (R (22 + 5 * c) = s ∧ Y c = t) := by
  constructor
  · rintro ⟨z, hz, e⟩
    have h1 := (hY.1 (3 * s + t) (by omega)).2.2 z hz
    rw [e] at h1
    simp only [Nat.add_sub_cancel] at h1
    omega
  · rintro ⟨e1, e2⟩
    obtain ⟨i, hi, e3⟩ := hY.2.2.2.1 c hc (by omega)
    rw [e1, e2] at hi e3
    exact ⟨i, hi, e3⟩
def wgC (R Y : Nat → Nat) (s c : Nat) : Nat := if R (22 + 5 * c) = s ∧ Y c < 3 then R (24 + 5 * c) else 0
theorem weigh_eq (hR : RO b R) (hY : YO n R Y) {s : Nat} (hs : s < 3) : sw R Y s 0 + sw R Y s 1 + sw R Y s 2 = smF (wgC R Y s) (R 5) := by
  have h0 := stW_sum (R := R) hY (show 3 * s + 0 < 9 by omega) _ (Nat.le_refl _)
  have h1 := stW_sum (R := R) hY (show 3 * s + 1 < 9 by omega) _ (Nat.le_refl _)
  have h2 := stW_sum (R := R) hY (show 3 * s + 2 < 9 by omega) _ (Nat.le_refl _)
  unfold sw
  rw [h0, h1, h2]
  rw [← smF_add (l := fun c => amW R Y (3 * s + 0) (Y (120 + (3 * s + 0))) c + amW R Y (3 * s + 1) (Y (120 + (3 * s + 1))) c) (R 5) (fun _ _ => rfl)]
  symm
  refine smF_add (R 5) (fun c hc => ?_)
  have a0 := amg_iff hR hY hs (show 0 < 3 by decide) hc
  have a1 := amg_iff hR hY hs (show 1 < 3 by decide) hc
  have a2 := amg_iff hR hY hs (show 2 < 3 by decide) hc
  simp only [amW, wgC, a0, a1, a2]
  by_cases e : R (22 + 5 * c) = s
  · by_cases e3 : Y c < 3
    · rw [if_pos ⟨e, e3⟩]
      have : Y c = 0 ∨ Y c = 1 ∨ Y c = 2 := by omega
      rcases this with z | z | z
      · rw [if_pos ⟨e, z⟩, if_neg (by omega), if_neg (by omega)]; omega
      · rw [if_neg (by omega), if_pos ⟨e, z⟩, if_neg (by omega), Nat.zero_add]; omega
      · rw [if_neg (by omega), if_neg (by omega), if_pos ⟨e, z⟩, Nat.zero_add]
    · rw [if_neg (by omega), if_neg (by omega), if_neg (by omega), if_neg (by omega)]
  · rw [if_neg (by omega), if_neg (by omega), if_neg (by omega), if_neg (by omega)]
theorem wg_le (hR : RO b R) {s : Nat} : ∀ m, m ≤ R 5 → smF (wgC R Y s) m ≤ 30 * m := by
  intro m
  induction m with
  | zero => intro _; exact Nat.le_refl _
  | succ m ih =>
    intro hm
    have := ih (by omega)
    have h1 := hR.2.2.2.2.1 m (by omega)
    have : wgC R Y s m ≤ 30 := by unfold wgC; split <;> omega
    unfold smF
    omega
theorem q_weight (x1 : Int32) (h4 : R 4 ≤ 3) (hR : RO b R) (hY : YO n R Y) : PQ n p b R Y r (d + 3) 91 214 [.int x1] := by
  rcases in_or x1 (n := R 4) (by omega) with ⟨s, hs, rfl⟩ | ho
  · refine ⟨nI (smF (wgC R Y s) (R 5)), nI 0, e0, fun g j hV => ?_, fun g j hV => ?_⟩
    · refine vX9_weight_0 (X_noShip hV (fun _ _ _ => ⟨fun _ => ?_, fun a => absurd n00 a⟩) (fun o => (o s hs rfl).elim))
      refine vX9_weight_18 ⟨fun a => absurd a (nI_ge (by decide) (by decide)), fun _ => ⟨p, hV.rp, X_stackWeighs hV (by omega) (by decide) ?_⟩⟩
      rw [nI_add, nI_add]
      refine vX9_weight_18 ⟨fun a => absurd a (nI_ge (by decide) (by decide)), fun _ => ⟨p, hV.rp, X_stackWeighs hV (by omega) (by decide) ?_⟩⟩
      rw [nI_add, nI_add]
      refine vX9_weight_18 ⟨fun a => absurd a (nI_ge (by decide) (by decide)), fun _ => ⟨p, hV.rp, X_stackWeighs hV (by omega) (by decide) ?_⟩⟩
      rw [nI_add, nI_add, Nat.zero_add, weigh_eq hR hY (by omega)]
      exact vX9_weight_18 ⟨fun _ => X_ans Ag.rf, fun a => absurd (Int32.le_refl _) a⟩
    · refine vX10_weight_0 (M_good fun g2 ha ht h7 => M_isShip (hV.ag ha) (fun _ _ _ => ⟨fun a => absurd a n10, fun _ => ?_⟩) (fun o => (o s hs rfl).elim))
      have hV2 := hV.ag ha
      have h5 := hV.b5
      have loop : ∀ q c, c + q = R 5 → G (d + 3) 214 22 [(0, .ref 263), (1, .int (nI s)), (2, .int (nI (smF (wgC R Y s) c))), (3, .int (nI c))] [] r g2 j (rkI (EM (nI (smF (wgC R Y s) (R 5))) (nI 0) r g)) := by
        intro q
        induction q with
        | zero =>
          intro c hc
          have : c = R 5 := by omega
          subst this
          exact vX10_weight_22 (IX_l (by decide) ⟨fun _ => ⟨rfl, rfl, ha, ht, h7⟩, fun a => absurd (by rw [hV2.mr (by decide)]; exact Int32.le_refl _) a⟩)
        | succ q ih =>
          intro c hc
          have hRc := hR.2.2.2.2.1 c (by omega)
          have hYc := hY.2.2.2.2.2.2.2.1 c (by omega)
          have hw := wg_le (Y := Y) (s := s) hR c (by omega)
          have st : ∀ z, z = wgC R Y s c → G (d + 3) 214 65 [(0, .ref 263), (1, .int (nI s)), (3, .int (nI c))] [.int (nI z), .int (nI (smF (wgC R Y s) c))] r g2 j (rkI (EM (nI (smF (wgC R Y s) (R 5))) (nI 0) r g)) := by
            intro z hz
            refine vX10_weight_65 ?_
            rw [nI_add, nI_add, hz]
            exact ih (c + 1) (by omega)
          refine vX10_weight_22 (IX_l (by decide) ⟨fun a => absurd a (by rw [hV2.mr (by decide)]; exact nI_ge (by omega) (by omega)), fun _ => M_ofCrate hV2 (c := c) (w := 1) (by omega) (by decide) ?_⟩)
          rw [show 21 + 5 * c + 1 = 22 + 5 * c by omega]
          refine ⟨fun e => IX_e (q := 0 + c) (nI_add 0 c) (by omega) ?_, fun e => vX10_weight_64 (st 0 ?_)⟩
          · rw [nI_eq (by omega) (by omega)] at e
            rw [Nat.zero_add, hV2.ms (by omega)]
            refine ⟨fun f => vX10_weight_64 (st 0 ?_), fun f => M_ofCrate hV2 (c := c) (w := 3) (by omega) (by decide) (st _ ?_)⟩
            · have f := le_n (by decide) (by omega) f
              unfold wgC
              rw [if_neg (by omega)]
            · have f : ¬ (3 ≤ Y c) := fun z => f (nI_le z (by omega))
              unfold wgC
              rw [if_pos (by omega)]
              congr 1
              omega
          · rw [nI_eq (by omega) (by omega)] at e
            unfold wgC
            rw [if_neg (by omega)]
      exact loop (R 5) 0 (by omega)
  · refine ⟨-1, nI 1, e1, fun g j hV => ?_, fun g j hV => ?_⟩
    · exact vX9_weight_0 (X_noShip hV (fun k hk e => (ho k hk e).elim) (fun _ => ⟨fun a => absurd a n10, fun _ => X_ref Ag.rf⟩))
    · exact vX10_weight_0 (M_good fun g2 ha ht h7 => M_isShip (hV.ag ha) (fun k hk e => (ho k hk e).elim) (fun _ => ⟨fun _ => M_no ha h7, fun a => absurd n00 a⟩))
end
