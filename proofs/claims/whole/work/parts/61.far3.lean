/-! queries: late, farthest, inland, people -/
def laV (R : Nat → Nat) (t : Nat) : Int32 := if fwF R 5 0 t < 1000000 then nI (fwF R 5 0 t) else -(nI 2)
def faF (R : Nat → Nat) : Nat → Nat
  | 0 => 0
  | m + 1 => if laV R m ≤ laV R (faF R m) then faF R m else m
def inV (R : Nat → Nat) (t : Nat) (v : Int32) : Int32 := if v < 0 then -(nI 2) else if 0 ≤ laV R t then v + laV R t else -(nI 2)
def plF (R : Nat → Nat) (v : Int32) (x : Int32) : Nat → Int32
  | 0 => nI 0
  | m + 1 => plF R v x m + (if inV R m v < 0 then -(nI (R (96 + m))) else if x < inV R m v then -(nI (R (96 + m))) else nI (R (96 + m)))
section
variable {n p b d : Nat} {R Y : Nat → Nat} {r : Rr} {g : Gi} {j : Gl} {K : Int32 → Rr → Gi → Gl → Prop} {x x1 x2 : Int32}
theorem RS82 {q : Nat} (h : q < 5) : RS 82 q = some (83 + q) := by
  show (bif Nat.blt q 5 then some (82 + 1 + q) else none) = _
  rw [blt_t h]; rfl
theorem SH83 {q : Nat} (h : q < 5) : SH (83 + q) = some (.inr (0, 5)) := by
  have : ∀ q, q < 5 → SH (83 + q) = some (.inr (0, 5)) := by decide
  exact this q h
theorem X_lateOr {t : Nat} (hV : Vw n p b R Y r g) (hD : Der b R g) (hb : b = 1) (ht : t < 5) (h : K (laV R t) r g j) : Cm d 4 [.ref 81, .int (nI t)] r g j (rkI K) := by
  have e : g 83 t = nI (fwF R 5 0 t) := (hD hb).1 0 t (by decide) ht
  have hM := fw_M hV.w9 (show 0 < 5 by decide) ht 5
  refine vX1_lateOrNothing_0 (IX_l (by decide) (RF_i (Or.inl (RS82 (by decide))) (AR_i (SH83 (by decide)) (IX_l ht ⟨fun a => ?_, fun a => IX_l (by decide) (RF_i (Or.inl (RS82 (by decide))) (AR_i (SH83 (by decide)) (IX_l ht ?_)))⟩))))
  · have a : nI 1000000 ≤ g 83 t := a
    rw [e] at a
    have := le_n (by decide) (by omega) a
    unfold laV at h; rw [if_neg (by omega)] at h; exact h
  · have a : ¬ nI 1000000 ≤ g 83 t := a
    rw [e] at a
    show K (g 83 t) r g j
    rw [e]
    unfold laV at h
    rw [if_pos] at h
    · exact h
    · rcases Nat.lt_or_ge (fwF R 5 0 t) 1000000 with h | h
      · exact h
      · exact absurd (nI_le h (by omega)) a
theorem M_lateOf {t : Nat} (hV : Vw n p b R Y r g) (ht : t < R 6) (h : ∀ g', Ag g g' → g' 263 11 = g 263 11 → g' 0 7 = g 0 7 → (∀ s, s < 5 → g' 276 s = nI (fwF R 5 s t)) → K (laV R t) r g' j) : Cm (d + 1) 227 [.ref 263, .int (nI t)] r g j (rkI K) := by
  have h6 := hV.b6
  have hM := fw_M hV.w9 (show 0 < 5 by decide) (show t < 5 by omega) 5
  refine vX10_lateOf_0 (M_layDays hV ht fun g' ha h11 h7 hd => ?_)
  have h := h g' ha h11 h7 hd
  refine IX_l (by decide) ⟨fun a => IX_l (by decide) ?_, fun a => ?_⟩
  · rw [hd 0 (by decide)] at a ⊢
    have := lt_n (by omega) (by decide) a
    unfold laV at h; rw [if_pos this] at h; exact h
  · rw [hd 0 (by decide)] at a
    unfold laV at h; rw [if_neg] at h
    · exact h
    · intro hl; exact a (nI_lt hl (by decide))
theorem q_late (x1 : Int32) (h6 : R 6 ≤ 5) : PD n p b R Y r (d + 3) 102 228 [.int x1] := by
  rcases in_or x1 (n := R 6) (by omega) with ⟨t, ht, rfl⟩ | ho
  · refine ⟨laV R t, nI 0, e0, fun g j hV hD => ?_, fun g j hV => ?_⟩
    · have hb1 : b = 1 := by rcases hV.z 6 with h | h
                             · omega
                             · exact h
      exact vX9_late_0 (X_noTown hV (fun _ _ _ => ⟨fun _ => X_lateOr hV hD hb1 (by omega) (X_ans Ag.rf), fun a => absurd n00 a⟩) (fun o => (o t ht rfl).elim))
    · exact vX10_late_0 (M_good fun g2 ha ht2 h7 => M_isTown (hV.ag ha) (fun _ _ _ => ⟨fun a => absurd a n10, fun _ => M_lateOf (hV.ag ha) ht fun g3 ha3 h113 h73 _ => ⟨rfl, rfl, ha.tr ha3, by rw [h113]; exact ht2, by rw [h73]; exact h7⟩⟩) (fun o => (o t ht rfl).elim))
  · refine ⟨-1, nI 1, e1, fun g j hV hD => ?_, fun g j hV => ?_⟩
    · exact vX9_late_0 (X_noTown hV (fun t ht e => (ho t ht e).elim) (fun o => ⟨fun a => absurd a n10, fun _ => X_ref Ag.rf⟩))
    · exact vX10_late_0 (M_good fun g2 ha ht2 h7 => M_isTown (hV.ag ha) (fun t ht e => (ho t ht e).elim) (fun o => ⟨fun _ => M_no ha h7, fun a => absurd n00 a⟩))
theorem faF_lt (R : Nat → Nat) : ∀ m, faF R m < m + 1 ∧ (1 ≤ m → faF R m < m) := by
  intro m
  induction m with
  | zero => exact ⟨Nat.lt_succ_self _, fun h => absurd h (by decide)⟩
  | succ m ih =>
    have : faF R (m + 1) ≤ m := by
      show (if laV R m ≤ laV R (faF R m) then faF R m else m) ≤ m
      split <;> omega
    exact ⟨by omega, fun _ => by omega⟩
theorem X_far_loop (hV : Vw n p b R Y r g) (hD : Der b R g) (hb : b = 1) : ∀ q m, m + q = R 6 → 1 ≤ m → G (d + 2) 103 17 [(0, .ref 0), (1, .int (nI (faF R m))), (2, .int (nI m))] [] r g j (rkI (EX (nI (faF R (R 6))) (nI 0) r g)) := by
  have h6 := hV.b6
  intro q
  induction q with
  | zero =>
    intro m hm h1
    have : m = R 6 := by omega
    subst this
    refine vX9_farthest_17 ⟨p, hV.rp, OB_i (SH_p hV.hp) ⟨fun _ => X_ans Ag.rf, fun a => absurd ?_ a⟩⟩
    rw [hV.px.1.2.2.2.2.2.2.1]; exact Int32.le_refl _
  | succ q ih =>
    intro m hm h1
    have hf := (faF_lt R m).2 h1
    have ih := ih (m + 1) (by omega) (by omega)
    have e : faF R (m + 1) = if laV R m ≤ laV R (faF R m) then faF R m else m := rfl
    refine vX9_farthest_17 ⟨p, hV.rp, OB_i (SH_p hV.hp) ⟨fun a => ?_, fun _ => X_lateOr hV hD hb (by omega) (X_lateOr hV hD hb (by omega) ⟨fun a => vX9_farthest_49 ?_, fun a => vX9_farthest_49 ?_⟩)⟩⟩
    · rw [hV.px.1.2.2.2.2.2.2.1] at a; exact absurd a (nI_ge (by omega) (by omega))
    · rw [if_pos a] at e
      rw [nI_add, ← e]; exact ih
    · rw [if_neg a] at e
      rw [nI_add]
      rw [e] at ih
      exact ih
theorem M_far_loop {g0 : Gi} (hV : Vw n p b R Y r g0) : ∀ q m gg, m + q = R 6 → 1 ≤ m → Ag g0 gg → gg 263 11 = nI 0 → gg 0 7 = g0 0 7 → G (d + 2) 230 21 [(0, .ref 263), (1, .int (nI (faF R m))), (2, .int (nI m))] [] r gg j (rkI (EM (nI (faF R (R 6))) (nI 0) r g0)) := by
  have h6 := hV.b6
  intro q
  induction q with
  | zero =>
    intro m gg hm h1 ha ht h7
    have : m = R 6 := by omega
    subst this
    refine vX10_farthest_21 (IX_l (by decide) ⟨fun _ => ⟨rfl, rfl, ha, ht, h7⟩, fun a => absurd ?_ a⟩)
    rw [(hV.ag ha).mr (by decide)]; exact Int32.le_refl _
  | succ q ih =>
    intro m gg hm h1 ha ht h7
    have hf := (faF_lt R m).2 h1
    have e : faF R (m + 1) = if laV R m ≤ laV R (faF R m) then faF R m else m := rfl
    refine vX10_farthest_21 (IX_l (by decide) ⟨fun a => ?_, fun _ => M_lateOf (hV.ag ha) (by omega) fun g1 ha1 h111 h71 _ => M_lateOf ((hV.ag ha).ag ha1) (by omega) fun g2 ha2 h112 h72 _ => ?_⟩)
    · rw [(hV.ag ha).mr (by decide)] at a; exact absurd a (nI_ge (by omega) (by omega))
    · have ih := ih (m + 1) g2 (by omega) (by omega) ((ha.tr ha1).tr ha2) (by rw [h112, h111]; exact ht) (by rw [h72, h71]; exact h7)
      refine ⟨fun a => vX10_farthest_50 ?_, fun a => vX10_farthest_50 ?_⟩
      · rw [if_pos a] at e
        rw [nI_add, ← e]; exact ih
      · rw [if_neg a] at e
        rw [nI_add]
        rw [e] at ih
        exact ih
theorem q_farthest : PD n p b R Y r (d + 3) 103 230 [] := by
  by_cases hb : b = 0
  · refine ⟨-1, nI 1, e1, fun g j hV hD => ?_, fun g j hV => ?_⟩
    · exact vX9_farthest_0 ⟨fun _ => X_ref Ag.rf, fun a => absurd (hV.tx0 hb) a⟩
    · exact vX10_farthest_0 (M_good fun g2 ha ht h7 => ⟨fun _ => M_no ha h7, fun a => absurd ((hV.ag ha).tm0 hb) a⟩)
  · refine ⟨nI (faF R (R 6)), nI 0, e0, fun g j hV hD => ?_, fun g j hV => ?_⟩
    · have hb1 : b = 1 := by rcases hV.b01 with h | h
                             · exact absurd h hb
                             · exact h
      have h61 := (hV.ro.2.1 hb1).2.2
      exact vX9_farthest_0 ⟨fun a => absurd a (hV.tx1 hb), fun _ => X_far_loop hV hD hb1 (R 6 - 1) 1 (by omega) (by decide)⟩
    · have hb1 : b = 1 := by rcases hV.b01 with h | h
                             · exact absurd h hb
                             · exact h
      have h61 := (hV.ro.2.1 hb1).2.2
      exact vX10_farthest_0 (M_good fun g2 ha ht h7 => ⟨fun a => absurd a ((hV.ag ha).tm1 hb), fun _ => M_far_loop hV (R 6 - 1) 1 g2 (by omega) (by decide) ha ht h7⟩)
theorem X_hadInland {t m : Nat} {v : Int32} (hV : Vw n p b R Y r g) (hD : Der b R g) (hb : b = 1) (ht : t < 5) (hm : 1 ≤ m ∧ m ≤ 99) (hv : dayF R Y m v) (h : K (inV R t v) r g j) : Cm (d + 1) 134 [.ref 0, .int (nI t), .int (nI m)] r g j (rkI K) := by
  refine vX9_hadInland_0 ⟨p, hV.rp, X_dayOf hV hm fun w hw => ?_⟩
  have := dayF_u hV.ro hV.yo hm.1 hw hv
  subst this
  refine X_lateOr hV hD hb ht ⟨fun a => ?_, fun a => ⟨fun a2 => ?_, fun a2 => ?_⟩⟩
  · unfold inV at h; rw [if_pos a] at h; exact h
  · unfold inV at h; rw [if_neg a, if_pos a2] at h; exact h
  · unfold inV at h; rw [if_neg a, if_neg a2] at h; exact h
theorem M_inlandOf {t m : Nat} {v : Int32} (hV : Vw n p b R Y r g) (ht : t < R 6) (hm : 1 ≤ m ∧ m ≤ 99) (hv : dayF R Y m v) (h : ∀ g', Ag g g' → g' 263 11 = g 263 11 → g' 0 7 = g 0 7 → K (inV R t v) r g' j) : Cm (d + 3) 231 [.ref 263, .int (nI t), .int (nI m)] r g j (rkI K) := by
  refine vX10_inlandOf_0 (M_dayOf hV hm.2 fun w hw => ?_)
  have := dayF_u hV.ro hV.yo hm.1 hw hv
  subst this
  refine ⟨fun a => ?_, fun a => M_lateOf hV ht fun g1 ha1 h111 h71 _ => ⟨fun a2 => M_lateOf (hV.ag ha1) ht fun g2 ha2 h112 h72 _ => ?_, fun a2 => ?_⟩⟩
  · have h := h g Ag.rf rfl rfl
    unfold inV at h; rw [if_pos a] at h; exact h
  · have h := h g2 (ha1.tr ha2) (by rw [h112, h111]) (by rw [h72, h71])
    unfold inV at h; rw [if_neg a, if_pos a2] at h; exact h
  · have h := h g1 ha1 h111 h71
    unfold inV at h; rw [if_neg a, if_neg a2] at h; exact h
theorem q_inland (x1 x2 : Int32) (h6 : R 6 ≤ 5) : PD n p b R Y r (d + 4) 105 232 [.int x1, .int x2] := by
  rcases in_or x1 (n := R 6) (by omega) with ⟨t, ht, rfl⟩ | ho
  · by_cases hv : ∃ m, 1 ≤ m ∧ m ≤ 99 ∧ x2 = nI m
    · obtain ⟨m, h1, h2, rfl⟩ := hv
      obtain ⟨v, hdv⟩ := dayF_ex R Y m
      refine ⟨inV R t v, nI 0, e0, fun g j hV hD => ?_, fun g j hV => ?_⟩
      · have hb1 : b = 1 := by rcases hV.z 6 with h | h
                               · omega
                               · exact h
        exact vX9_inland_0 (X_noTown hV (fun _ _ _ => ⟨fun _ => X_noNumber (fun _ _ _ _ => ⟨fun _ => X_hadInland hV hD hb1 (by omega) ⟨h1, h2⟩ hdv (X_ans Ag.rf), fun a => absurd n00 a⟩) (fun o => (o m h1 h2 rfl).elim), fun a => absurd n00 a⟩) (fun o => (o t ht rfl).elim))
      · exact vX10_inland_0 (M_good fun g2 ha ht2 h7 => M_isTown (hV.ag ha) (fun _ _ _ => ⟨fun a => absurd a n10, fun _ => M_in1 (fun _ _ _ _ => ⟨fun a => absurd a n10, fun _ => M_inlandOf (hV.ag ha) ht ⟨h1, h2⟩ hdv fun g3 ha3 h113 h73 => ⟨rfl, rfl, ha.tr ha3, by rw [h113]; exact ht2, by rw [h73]; exact h7⟩⟩) (fun o => (o m h1 h2 rfl).elim)⟩) (fun o => (o t ht rfl).elim))
    · refine ⟨-1, nI 2, e2, fun g j hV hD => ?_, fun g j hV => ?_⟩
      · exact vX9_inland_0 (X_noTown hV (fun _ _ _ => ⟨fun _ => X_noNumber (fun k a c e => absurd ⟨k, a, c, e⟩ hv) (fun o => ⟨fun a => absurd a n10, fun _ => X_ref Ag.rf⟩), fun a => absurd n00 a⟩) (fun o => (o t ht rfl).elim))
      · exact vX10_inland_0 (M_good fun g2 ha ht2 h7 => M_isTown (hV.ag ha) (fun _ _ _ => ⟨fun a => absurd a n10, fun _ => M_in1 (fun k a c e => absurd ⟨k, a, c, e⟩ hv) (fun o => ⟨fun _ => M_no ha h7, fun a => absurd n00 a⟩)⟩) (fun o => (o t ht rfl).elim))
  · refine ⟨-1, nI 1, e1, fun g j hV hD => ?_, fun g j hV => ?_⟩
    · exact vX9_inland_0 (X_noTown hV (fun t ht e => (ho t ht e).elim) (fun o => ⟨fun a => absurd a n10, fun _ => X_ref Ag.rf⟩))
    · exact vX10_inland_0 (M_good fun g2 ha ht2 h7 => M_isTown (hV.ag ha) (fun t ht e => (ho t ht e).elim) (fun o => ⟨fun _ => M_no ha h7, fun a => absurd n00 a⟩))
theorem X_ppl_loop {m : Nat} {v : Int32} (hV : Vw n p b R Y r g) (hD : Der b R g) (hb : b = 1) (hm : 1 ≤ m ∧ m ≤ 99) (hv : dayF R Y m v) : ∀ q t, t + q = R 6 → G (d + 2) 106 50 [(0, .ref 0), (1, .int (nI m)), (2, .int x2), (3, .int (plF R v x2 t)), (4, .int (nI t))] [] r g j (rkI (EX (plF R v x2 (R 6)) (nI 0) r g)) := by
  have h6 := hV.b6
  intro q
  induction q with
  | zero =>
    intro t ht
    have : t = R 6 := by omega
    subst this
    refine vX9_people_50 ⟨p, hV.rp, OB_i (SH_p hV.hp) ⟨fun _ => X_ans Ag.rf, fun a => absurd ?_ a⟩⟩
    rw [hV.px.1.2.2.2.2.2.2.1]; exact Int32.le_refl _
  | succ q ih =>
    intro t ht
    have ih := ih (t + 1) (by omega)
    have e : plF R v x2 (t + 1) = plF R v x2 t + (if inV R t v < 0 then -(nI (R (96 + t))) else if x2 < inV R t v then -(nI (R (96 + t))) else nI (R (96 + t))) := rfl
    have ep : g (p + 3) t = nI (R (96 + t)) := hV.px.2.2.2.1 t (by omega)
    have no : plF R v x2 (t + 1) = plF R v x2 t + -(nI (R (96 + t))) → G (d + 2) 106 86 [(0, .ref 0), (1, .int (nI m)), (2, .int x2), (3, .int (plF R v x2 t)), (4, .int (nI t))] [] r g j (rkI (EX (plF R v x2 (R 6)) (nI 0) r g)) := fun e => by
      refine vX9_people_86 (vX9_people_87 ⟨fun _ => ⟨p, hV.rp, people_i hV.hp rfl (by omega) (vX9_people_119 ?_)⟩, fun a => absurd n00 a⟩)
      rw [ep, nI_add, ← e]; exact ih
    refine vX9_people_50 ⟨p, hV.rp, OB_i (SH_p hV.hp) ⟨fun a => ?_, fun _ => X_hadInland hV hD hb (by omega) hm hv ⟨fun a => no ?_, fun a => ⟨fun a2 => no ?_, fun a2 => vX9_people_87 ⟨fun a => absurd a n10, fun _ => ⟨p, hV.rp, people_i hV.hp rfl (by omega) (vX9_people_119 ?_)⟩⟩⟩⟩⟩⟩
    · rw [hV.px.1.2.2.2.2.2.2.1] at a; exact absurd a (nI_ge (by omega) (by omega))
    · rw [if_pos a] at e; exact e
    · rw [if_neg a, if_pos a2] at e; exact e
    · rw [if_neg a, if_neg a2] at e
      rw [ep, nI_add, ← e]; exact ih
theorem M_ppl_loop {m : Nat} {v : Int32} {g0 : Gi} (hV : Vw n p b R Y r g0) (hm : 1 ≤ m ∧ m ≤ 99) (hv : dayF R Y m v) : ∀ q t gg, t + q = R 6 → Ag g0 gg → gg 263 11 = nI 0 → gg 0 7 = g0 0 7 → G (d + 4) 233 57 [(0, .ref 263), (1, .int (nI m)), (2, .int x2), (3, .int (plF R v x2 t)), (4, .int (nI t))] [] r gg j (rkI (EM (plF R v x2 (R 6)) (nI 0) r g0)) := by
  have h6 := hV.b6
  intro q
  induction q with
  | zero =>
    intro t gg ht ha ht2 h7
    have : t = R 6 := by omega
    subst this
    refine vX10_people_57 (IX_l (by decide) ⟨fun _ => ⟨rfl, rfl, ha, ht2, h7⟩, fun a => absurd ?_ a⟩)
    rw [(hV.ag ha).mr (by decide)]; exact Int32.le_refl _
  | succ q ih =>
    intro t gg ht ha ht2 h7
    have e : plF R v x2 (t + 1) = plF R v x2 t + (if inV R t v < 0 then -(nI (R (96 + t))) else if x2 < inV R t v then -(nI (R (96 + t))) else nI (R (96 + t))) := rfl
    refine vX10_people_57 (IX_l (by decide) ⟨fun a => ?_, fun _ => M_inlandOf (hV.ag ha) (by omega) hm hv fun g1 ha1 h111 h71 => ?_⟩)
    · rw [(hV.ag ha).mr (by decide)] at a; exact absurd a (nI_ge (by omega) (by omega))
    · have ih := ih (t + 1) g1 (by omega) (ha.tr ha1) (by rw [h111]; exact ht2) (by rw [h71]; exact h7)
      have ep : g1 266 (96 + t) = nI (R (96 + t)) := (hV.ag (ha.tr ha1)).mr (by omega)
      have yes : plF R v x2 (t + 1) = plF R v x2 t + nI (R (96 + t)) → IX (nI 96 + nI t) 348 (fun q11 => G (d + 4) 233 109 [(0, .ref 263), (1, .int (nI m)), (2, .int x2), (4, .int (nI t))] [.int (g1 266 q11), .int (plF R v x2 t)] r g1 j (rkI (EM (plF R v x2 (R 6)) (nI 0) r g0))) := fun e => by
        refine IX_e (q := 96 + t) (nI_add 96 t) (by omega) (vX10_people_109 ?_)
        rw [ep, nI_add, ← e]; exact ih
      have no : plF R v x2 (t + 1) = plF R v x2 t + -(nI (R (96 + t))) → IX (nI 96 + nI t) 348 (fun q11 => G (d + 4) 233 109 [(0, .ref 263), (1, .int (nI m)), (2, .int x2), (4, .int (nI t))] [.int (-(g1 266 q11)), .int (plF R v x2 t)] r g1 j (rkI (EM (plF R v x2 (R 6)) (nI 0) r g0))) := fun e => by
        refine IX_e (q := 96 + t) (nI_add 96 t) (by omega) (vX10_people_109 ?_)
        rw [ep, nI_add, ← e]; exact ih
      refine vX10_in_0 ⟨fun a => ⟨bo0, ⟨fun _ => no ?_, fun a => absurd n00 a⟩⟩, fun a => ⟨fun a2 => ⟨bo0, ⟨fun _ => no ?_, fun a => absurd n00 a⟩⟩, fun a2 => ⟨bo1, ⟨fun a => absurd a n10, fun _ => yes ?_⟩⟩⟩⟩
      · rw [n00] at a; rw [if_pos a] at e; exact e
      · rw [n00] at a; rw [if_neg a, if_pos a2] at e; exact e
      · rw [n00] at a; rw [if_neg a, if_neg a2] at e; exact e
theorem q_people (x1 x2 : Int32) : PD n p b R Y r (d + 5) 106 233 [.int x1, .int x2] := by
  have xno : ∀ e : Int32, ∀ (g : Gi) (j : Gl), Cm (d + 4) 121 [.ref 0, .int e] r g j (rkI fun y8 r5 g6 j7 => rkI (EX (-(nI 10000)) e r g) (some (.int (-(nI 10000)))) r5 g6 j7) := fun e g j => vX9_refused_0 ⟨rfl, rfl, Ag.rf.u rfl, uI_s⟩
  have mno : ∀ (g g2 : Gi) (j : Gl), Vw n p b R Y r g → Ag g g2 → g2 0 7 = g 0 7 → ∀ e, (b = 0 → e = nI 1) → (¬ b = 0 → e = nI 2) → G (d + 5) 233 32 [(0, .ref 263)] [] r g2 j (rkI (EM (-(nI 10000)) e r g)) := fun g g2 j hV ha h7 e h1 h2 => by
    refine vX10_people_32 ⟨fun a => vX10_people_45 ?_, fun a => vX10_people_45 ?_⟩
    · rw [(hV.ag ha).tm, nI_z (by have := hV.b01; omega)] at a
      rw [← h1 a]; exact ⟨rfl, rfl, ha.u rfl, uI_s, h7⟩
    · rw [(hV.ag ha).tm, nI_z (by have := hV.b01; omega)] at a
      rw [← h2 a]; exact ⟨rfl, rfl, ha.u rfl, uI_s, h7⟩
  by_cases hb : b = 0
  · refine ⟨-(nI 10000), nI 1, e1, fun g j hV hD => ?_, fun g j hV => ?_⟩
    · exact vX9_people_0 ⟨fun _ => xno _ g j, fun a => absurd (hV.tx0 hb) a⟩
    · exact vX10_people_0 (M_good fun g2 ha ht h7 => ⟨fun _ => mno g g2 j hV ha h7 _ (fun _ => rfl) (fun h => absurd hb h), fun a => absurd ((hV.ag ha).tm0 hb) a⟩)
  · by_cases hv : ∃ m, 1 ≤ m ∧ m ≤ 99 ∧ x1 = nI m
    · obtain ⟨m, h1, h2, rfl⟩ := hv
      rcases in_or x2 (n := 1000) (by decide) with ⟨k, hk, rfl⟩ | ho
      · obtain ⟨v, hdv⟩ := dayF_ex R Y m
        refine ⟨plF R v (nI k) (R 6), nI 0, e0, fun g j hV hD => ?_, fun g j hV => ?_⟩
        · have hb1 : b = 1 := by rcases hV.b01 with h | h
                                 · exact absurd h hb
                                 · exact h
          exact vX9_people_0 ⟨fun a => absurd a (hV.tx1 hb), fun _ => X_noNumber (fun _ _ _ _ => ⟨fun _ => ⟨fun a => absurd a (nlt_0 (by omega)), fun _ => ⟨fun _ => X_ppl_loop hV hD hb1 ⟨h1, h2⟩ hdv (R 6) 0 (by omega), fun a => absurd (nI_le (by omega) (by decide)) a⟩⟩, fun a => absurd n00 a⟩) (fun o => (o m h1 h2 rfl).elim)⟩
        · exact vX10_people_0 (M_good fun g2 ha ht h7 => ⟨fun a => absurd a ((hV.ag ha).tm1 hb), fun _ => M_in1 (fun _ _ _ _ => ⟨fun a => absurd a n10, fun _ => M_in 999 (by decide) (fun _ _ _ => ⟨fun a => absurd a n10, fun _ => M_ppl_loop hV ⟨h1, h2⟩ hdv (R 6) 0 g2 (by omega) ha ht h7⟩) (fun o => (o k hk rfl).elim)⟩) (fun o => (o m h1 h2 rfl).elim)⟩)
      · refine ⟨-(nI 10000), nI 2, e2, fun g j hV hD => ?_, fun g j hV => ?_⟩
        · refine vX9_people_0 ⟨fun a => absurd a (hV.tx1 hb), fun _ => X_noNumber (fun _ _ _ _ => ⟨fun _ => ⟨fun _ => vX9_people_35 (xno _ g j), fun a0 => ⟨fun a => ?_, fun _ => vX9_people_35 (xno _ g j)⟩⟩, fun a => absurd n00 a⟩) (fun o => (o m h1 h2 rfl).elim)⟩
          exfalso
          have h3 := out_c (n := 1000) (by decide) ho a0
          rw [Int32.le_iff_toInt_le] at h3 a
          have e3 : (nI 999).toInt = 999 := by decide +kernel
          have e4 : (nI 1000).toInt = 1000 := by decide +kernel
          omega
        · exact vX10_people_0 (M_good fun g2 ha ht h7 => ⟨fun a => absurd a ((hV.ag ha).tm1 hb), fun _ => M_in1 (fun _ _ _ _ => ⟨fun a => absurd a n10, fun _ => M_in 999 (by decide) (fun k hk e => (ho k (by omega) e).elim) (fun o => ⟨fun _ => mno g g2 j hV ha h7 _ (fun h => absurd h hb) (fun _ => rfl), fun a => absurd n00 a⟩)⟩) (fun o => (o m h1 h2 rfl).elim)⟩)
    · refine ⟨-(nI 10000), nI 2, e2, fun g j hV hD => ?_, fun g j hV => ?_⟩
      · exact vX9_people_0 ⟨fun a => absurd a (hV.tx1 hb), fun _ => X_noNumber (fun k a c e => absurd ⟨k, a, c, e⟩ hv) (fun o => ⟨fun a => absurd a n10, fun _ => vX9_people_35 (xno _ g j)⟩)⟩
      · exact vX10_people_0 (M_good fun g2 ha ht h7 => ⟨fun a => absurd a ((hV.ag ha).tm1 hb), fun _ => M_in1 (fun k a c e => absurd ⟨k, a, c, e⟩ hv) (fun o => ⟨fun _ => mno g g2 j hV ha h7 _ (fun h => absurd h hb) (fun _ => rfl), fun a => absurd n00 a⟩)⟩)
theorem o_late (hn : n + 1 ≤ 512) (hJ : J n r g) (x1 : Int32) : OPi (d + 3) 102 228 [.int x1] n r g j := OPi.od hn hJ fun p b R Y hV hz => q_late x1 hV.b6
theorem o_farthest (hn : n + 1 ≤ 512) (hJ : J n r g) : OPi (d + 3) 103 230 [] n r g j := OPi.od hn hJ fun p b R Y hV hz => q_farthest
theorem o_inland (hn : n + 1 ≤ 512) (hJ : J n r g) (x1 x2 : Int32) : OPi (d + 4) 105 232 [.int x1, .int x2] n r g j := OPi.od hn hJ fun p b R Y hV hz => q_inland x1 x2 hV.b6
theorem o_people (hn : n + 1 ≤ 512) (hJ : J n r g) (x1 x2 : Int32) : OPi (d + 5) 106 233 [.int x1, .int x2] n r g j := OPi.od hn hJ fun p b R Y hV hz => q_people x1 x2
end
