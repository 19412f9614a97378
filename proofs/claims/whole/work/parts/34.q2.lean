/-! SPECS: hadOn, evenings, next, judge, sure -/
section
variable {n p b d : Nat} {R Y : Nat → Nat} {r : Rr} {g : Gi} {j : Gl} {K : Int32 → Rr → Gi → Gl → Prop} {x x1 x2 : Int32} {Q : QT}
theorem in_1 (x : Int32) (m : Nat) (hm : m < 2 ^ 30) : (∃ k, 1 ≤ k ∧ k ≤ m ∧ x = nI k) ∨ (x < nI 1) ∨ (nI m < x ∧ ¬ x < nI 1) := by
  rcases pk_ix x (n := m + 1) (by omega) with h | h | ⟨k, h1, h2⟩
  · right; left
    rw [Int32.lt_iff_toInt_lt] at h ⊢
    rw [nI_toInt (by decide)]
    simp at h
    omega
  · rw [Int32.le_iff_toInt_le, nI_toInt (by omega)] at h
    by_cases h1 : x < nI 1
    · exact Or.inr (Or.inl h1)
    · refine Or.inr (Or.inr ⟨?_, h1⟩)
      rw [Int32.lt_iff_toInt_lt, nI_toInt (by omega)]
      omega
  · rcases Nat.eq_zero_or_pos k with e | e
    · right; left
      subst e; rw [h2]; decide +kernel
    · exact Or.inl ⟨k, e, by omega, h2⟩
theorem nle_of {x y : Int32} (h : y < x) : ¬ x ≤ y := by
  rw [Int32.lt_iff_toInt_lt] at h
  rw [Int32.le_iff_toInt_le]
  omega
theorem X_noNumber (h0 : ∀ k, 1 ≤ k → k ≤ 99 → x = nI k → K (nI 0) r g j) (h1 : (∀ k, 1 ≤ k → k ≤ 99 → x ≠ nI k) → K (nI 1) r g j) : Cm d 129 [.int x] r g j (rkI K) := by
  rcases in_1 x 99 (by decide) with ⟨k, a, c, e⟩ | h | ⟨h, h'⟩
  · have := h0 k a c e
    subst e
    exact vX9_noNumber_0 ⟨fun a => absurd a (nI_nlt (by omega) (by omega)), fun _ => ⟨fun _ => ⟨bo0, this⟩, fun a => absurd (nI_le (by omega) (by omega)) a⟩⟩
  · exact vX9_noNumber_0 ⟨fun _ => ⟨bo1, h1 fun k a c e => by subst e; exact nI_nlt (by omega) (by omega) h⟩, fun a => absurd h a⟩
  · exact vX9_noNumber_0 ⟨fun a => absurd a h', fun _ => ⟨fun a => absurd a (nle_of h), fun _ => ⟨bo1, h1 fun k a c e => by subst e; exact nI_nlt (by omega) (by omega) h⟩⟩⟩
theorem M_in1 (h1 : ∀ k, 1 ≤ k → k ≤ 99 → x = nI k → K (nI 1) r g j) (h0 : (∀ k, 1 ≤ k → k ≤ 99 → x ≠ nI k) → K (nI 0) r g j) : Cm d 144 [.int x, .int (nI 1), .int (nI 99)] r g j (rkI K) := by
  rcases in_1 x 99 (by decide) with ⟨k, a, c, e⟩ | h | ⟨h, h'⟩
  · have := h1 k a c e
    subst e
    exact vX10_in_0 ⟨fun a => absurd a (nI_nlt (by omega) (by omega)), fun _ => ⟨fun a => absurd a (nI_nlt (by omega) (by omega)), fun _ => ⟨bo1, this⟩⟩⟩
  · exact vX10_in_0 ⟨fun _ => ⟨bo0, h0 fun k a c e => by subst e; exact nI_nlt (by omega) (by omega) h⟩, fun a => absurd h a⟩
  · exact vX10_in_0 ⟨fun a => absurd a h', fun _ => ⟨fun _ => ⟨bo0, h0 fun k a c e => by subst e; exact nI_nlt (by omega) (by omega) h⟩, fun a => absurd h a⟩⟩
theorem X_noComingDay (h0 : ∀ k, k ≤ 99 → x = nI k → K (nI 0) r g j) (h1 : out x 100 → K (nI 1) r g j) : Cm d 130 [.int x] r g j (rkI K) := by
  rcases in_or x (n := 100) (by decide) with ⟨k, hk, e⟩ | ho
  · have := h0 k (by omega) e
    subst e
    exact vX9_noComingDay_0 ⟨fun a => absurd a (nlt_0 (by omega)), fun _ => ⟨fun _ => ⟨bo0, this⟩, fun a => absurd (nI_le (by omega) (by omega)) a⟩⟩
  · have := h1 ho
    refine vX9_noComingDay_0 ⟨fun _ => ⟨bo1, this⟩, fun a => ⟨fun c => ?_, fun _ => ⟨bo1, this⟩⟩⟩
    have h2 := out_c (by decide) ho a
    exfalso
    rw [Int32.le_iff_toInt_le, nI_toInt (by decide)] at c h2
    omega
/-- the day on which a number was had -/
def dayF (R Y : Nat → Nat) (m : Nat) (v : Int32) : Prop := (∃ k, k < Y 145 ∧ numHad R Y k = m ∧ v = nI k) ∨ ((∀ k, k < Y 145 → numHad R Y k ≠ m) ∧ v = -(nI 2))
theorem numHad_inj (hR : RO b R) (hY : YO n R Y) {k k' m : Nat} (hm : 1 ≤ m) (hk : k < Y 145) (hk' : k' < Y 145) (h : numHad R Y k = m) (h' : numHad R Y k' = m) : k = k' := by
  have h145 := hY.2.2.2.2.2.2.2.2.2.1
  have y1 := h145.2 k (by omega)
  have y2 := h145.2 k' (by omega)
  unfold numHad at h h'
  split at h
  · omega
  · split at h'
    · omega
    · have := hR.2.2.2.2.2.1 (Y (147 + k) - 1) (Y (147 + k') - 1) (by omega) (by omega) (by omega)
      exact hY.2.2.2.2.2.2.2.2.2.2.1 k k' (by omega) (by omega) (by omega) (by omega)
theorem dayF_u (hR : RO b R) (hY : YO n R Y) {m : Nat} (hm : 1 ≤ m) {v w : Int32} (h : dayF R Y m v) (h' : dayF R Y m w) : v = w := by
  rcases h with ⟨k, hk, e, rfl⟩ | ⟨h, rfl⟩ <;> rcases h' with ⟨k', hk', e', rfl⟩ | ⟨h', rfl⟩
  · rw [numHad_inj hR hY hm hk hk' e e']
  · exact absurd e (h' k hk)
  · exact absurd e' (h k' hk')
  · rfl
theorem dayF_ex (R Y : Nat → Nat) (m : Nat) : ∃ v, dayF R Y m v := by
  by_cases h : ∃ k, k < Y 145 ∧ numHad R Y k = m
  · obtain ⟨k, h1, h2⟩ := h
    exact ⟨_, Or.inl ⟨k, h1, h2, rfl⟩⟩
  · exact ⟨_, Or.inr ⟨fun k hk e => h ⟨k, hk, e⟩, rfl⟩⟩
theorem numHad_le (hR : RO b R) (hY : YO n R Y) {k : Nat} (hk : k < 99) : numHad R Y k ≤ 99 := by
  unfold numHad
  split
  · omega
  · have y1 := hY.2.2.2.2.2.2.2.2.2.1.2 k hk
    exact (hR.2.2.2.2.1 (Y (147 + k) - 1) (by omega)).2.2.2.1
theorem M_dayOf_loop {m : Nat} (hV : Vw n p b R Y r g) (hm : m ≤ 99) : ∀ q k, k + q = Y 145 → (∀ k', k' < k → numHad R Y k' ≠ m) → (∀ v, dayF R Y m v → K v r g j) → G (d + 2) 192 2 [(0, .ref 263), (1, .int (nI m)), (2, .int (nI k))] [] r g j (rkI K) := by
  have h145 := hV.yo.2.2.2.2.2.2.2.2.2.1.1
  intro q
  induction q with
  | zero =>
    intro k hk h1 h2
    refine vX10_dayOf_2 (IX_l (by decide) ⟨fun _ => h2 _ (Or.inr ⟨fun k' hk' => h1 k' (by omega), rfl⟩), fun a => absurd ?_ a⟩)
    rw [hV.ms (by decide)]; exact nI_le (by omega) (by omega)
  | succ q ih =>
    intro k hk h1 h2
    refine vX10_dayOf_2 (IX_l (by decide) ⟨fun a => absurd a ?_, fun _ => M_numberHad hV (by omega) ⟨fun e => ?_, fun e => ?_⟩⟩)
    · rw [hV.ms (by decide)]; exact nI_ge (by omega) (by omega)
    · have h9 := numHad_le hV.ro hV.yo (show k < 99 by omega)
      rw [nI_eq (by omega) (by omega)] at e
      exact h2 _ (Or.inl ⟨k, by omega, e, rfl⟩)
    · rw [nI_add]
      refine ih (k + 1) (by omega) (fun k' hk' => ?_) h2
      by_cases e2 : k' = k
      · subst e2; exact fun e3 => e (by rw [e3])
      · exact h1 k' (by omega)
theorem M_dayOf {m : Nat} (hV : Vw n p b R Y r g) (hm : m ≤ 99) (h : ∀ v, dayF R Y m v → K v r g j) : Cm (d + 2) 192 [.ref 263, .int (nI m)] r g j (rkI K) :=
  vX10_dayOf_0 (M_dayOf_loop hV hm (Y 145) 0 (by omega) (fun _ h => by omega) h)
theorem X_dayOf_loop {m : Nat} (hV : Vw n p b R Y r g) (hm : 1 ≤ m ∧ m ≤ 99) : ∀ q c, c + q = R 5 → (∀ c', c' < c → R (23 + 5 * c') ≠ m) → (∀ v, dayF R Y m v → K v r g j) → G d 68 2 [(0, .ref 62), (1, .ref p), (2, .int (nI m)), (3, .int (nI c))] [] r g j (rkI K) := by
  have h5 := hV.b5
  have hyo := hV.yo
  have h145 := hyo.2.2.2.2.2.2.2.2.2.1
  intro q
  induction q with
  | zero =>
    intro c hc h1 h2
    refine vX8_dayOfNumber_2 (OB_i (SH_p hV.hp) ⟨fun _ => h2 _ (Or.inr ⟨fun k hk => ?_, rfl⟩), fun a => absurd ?_ a⟩)
    · unfold numHad
      have y1 := h145.2 k (by omega)
      split
      · omega
      · exact h1 _ (by omega)
    · rw [hV.px.1.2.2.2.2.2.1]; exact nI_le (by omega) (by omega)
  | succ q ih =>
    intro c hc h1 h2
    have hR := hV.ro.2.2.2.2.1 c (by omega)
    refine vX8_dayOfNumber_2 (OB_i (SH_p hV.hp) ⟨fun a => absurd a ?_, fun _ => crate_f hV.hp rfl (by omega) ⟨fun a => IX_l (by omega) ?_, fun a => ?_⟩⟩)
    · rw [hV.px.1.2.2.2.2.2.1]; exact nI_ge (by omega) (by omega)
    · rw [(hV.px.2.2.1 c (by omega)).2.2.1, nI_eq (by omega) (by omega)] at a
      have hx := hV.yx.2.2.2.2 c (by omega)
      by_cases h4 : Y c = 4
      · obtain ⟨d', hd', e1, e2⟩ := hx.2.2.2.1 h4
        rw [show g 70 c = _ from e2]
        refine h2 _ (Or.inl ⟨d', hd', ?_, rfl⟩)
        unfold numHad
        rw [if_neg (by omega), e1]
        exact a
      · rw [show g 70 c = _ from hx.2.2.2.2 h4]
        refine h2 _ (Or.inr ⟨fun k hk e => ?_, rfl⟩)
        have y1 := h145.2 k (by omega)
        unfold numHad at e
        split at e
        · omega
        · have e3 := hV.ro.2.2.2.2.2.1 (Y (147 + k) - 1) c (by omega) (by omega) (by omega)
          have := (y1.2 (by omega)).2
          rw [e3] at this
          exact h4 this
    · rw [nI_add]
      rw [(hV.px.2.2.1 c (by omega)).2.2.1, nI_eq (by omega) (by omega)] at a
      refine ih (c + 1) (by omega) (fun c' hc' => ?_) h2
      by_cases e2 : c' = c
      · subst e2; exact a
      · exact h1 c' (by omega)
theorem X_dayOf {m : Nat} (hV : Vw n p b R Y r g) (hm : 1 ≤ m ∧ m ≤ 99) (h : ∀ v, dayF R Y m v → K v r g j) : Cm d 68 [.ref 62, .ref p, .int (nI m)] r g j (rkI K) :=
  vX8_dayOfNumber_0 (X_dayOf_loop hV hm (R 5) 0 (by omega) (fun _ h => by omega) h)
theorem q_hadOn (x1 : Int32) (hR : RO b R) (hY : YO n R Y) : PQ n p b R Y r (d + 3) 83 193 [.int x1] := by
  by_cases hb : b = 0
  · refine ⟨-1, nI 1, e1, fun g j hV => ?_, fun g j hV => ?_⟩
    · exact vX9_hadOn_0 ⟨fun _ => X_ref Ag.rf, fun a => absurd (by rw [hV.tx, hb]; exact n00) a⟩
    · exact vX10_hadOn_0 (M_good fun g2 ha ht h7 => ⟨fun _ => M_no ha h7, fun a => absurd (by rw [(hV.ag ha).tm, hb]; exact n00) a⟩)
  · by_cases hv : ∃ m, 1 ≤ m ∧ m ≤ 99 ∧ x1 = nI m
    · obtain ⟨m, h1, h2, rfl⟩ := hv
      obtain ⟨v, hdv⟩ := dayF_ex R Y m
      refine ⟨v, nI 0, e0, fun g j hV => ?_, fun g j hV => ?_⟩
      · refine vX9_hadOn_0 ⟨fun a => absurd (by rw [hV.tx, nI_z (by have := hV.b01; omega)] at a; exact a) hb, fun _ => X_noNumber (fun k _ _ _ => ⟨fun _ => ⟨p, hV.rp, X_dayOf hV ⟨h1, h2⟩ fun w hw => ?_⟩, fun a => absurd n00 a⟩) (fun o => (o m h1 h2 rfl).elim)⟩
        rw [dayF_u hR hY h1 hw hdv]
        exact X_ans Ag.rf
      · refine vX10_hadOn_0 (M_good fun g2 ha ht h7 => ⟨fun a => absurd (by rw [(hV.ag ha).tm, nI_z (by have := hV.b01; omega)] at a; exact a) hb, fun _ => M_in1 (fun k _ _ _ => ⟨fun a => absurd a n10, fun _ => M_dayOf (hV.ag ha) h2 fun w hw => ?_⟩) (fun o => (o m h1 h2 rfl).elim)⟩)
        exact ⟨dayF_u hR hY h1 hw hdv, rfl, ha, ht, h7⟩
    · refine ⟨-1, nI 2, e2, fun g j hV => ?_, fun g j hV => ?_⟩
      · exact vX9_hadOn_0 ⟨fun a => absurd (by rw [hV.tx, nI_z (by have := hV.b01; omega)] at a; exact a) hb, fun _ => X_noNumber (fun k a c e => absurd ⟨k, a, c, e⟩ hv) (fun o => ⟨fun a => absurd a n10, fun _ => X_ref Ag.rf⟩)⟩
      · exact vX10_hadOn_0 (M_good fun g2 ha ht h7 => ⟨fun a => absurd (by rw [(hV.ag ha).tm, nI_z (by have := hV.b01; omega)] at a; exact a) hb, fun _ => M_in1 (fun k a c e => absurd ⟨k, a, c, e⟩ hv) (fun o => ⟨fun _ => M_no ha h7, fun a => absurd n00 a⟩)⟩)
/-- told or not, on both sides -/
theorem Vw.tx0 (hV : Vw n p b R Y r g) (hb : b = 0) : g 0 5 = 0 := by rw [hV.tx, hb]; exact n00
theorem Vw.tm0 (hV : Vw n p b R Y r g) (hb : b = 0) : g 263 14 = 0 := by rw [hV.tm, hb]; exact n00
theorem Vw.tx1 (hV : Vw n p b R Y r g) (hb : ¬ b = 0) : ¬ g 0 5 = 0 := by rw [hV.tx, nI_z (by have := hV.b01; omega)]; exact hb
theorem Vw.tm1 (hV : Vw n p b R Y r g) (hb : ¬ b = 0) : ¬ g 263 14 = 0 := by rw [hV.tm, nI_z (by have := hV.b01; omega)]; exact hb
/-- the longest row of long evenings: from day k on, q days -/
def evF (R Y : Nat → Nat) : Nat → Nat → Nat → Nat → Nat
  | 0, _, most, _ => most
  | q + 1, k, most, now => let now' := if numHad R Y k = 0 then now + 1 else 0
    evF R Y q (k + 1) (if most < now' then now' else most) now'
theorem nI_max {a c : Nat} (ha : a < 2 ^ 31) (hc : c < 2 ^ 31) : (if nI a < nI c then nI c else nI a) = nI (if a < c then c else a) := by
  by_cases h : a < c
  · rw [if_pos h, if_pos (nI_lt h hc)]
  · rw [if_neg h, if_neg (nI_nlt (by omega) ha)]
theorem nI_min {a c : Nat} (ha : a < 2 ^ 31) (hc : c < 2 ^ 31) : (if nI c < nI a then nI c else nI a) = nI (if c < a then c else a) := by
  by_cases h : c < a
  · rw [if_pos h, if_pos (nI_lt h ha)]
  · rw [if_neg h, if_neg (nI_nlt (by omega) hc)]
theorem X_ev_loop (hV : Vw n p b R Y r g) : ∀ q k most now, k + q = Y 145 → most ≤ k → now ≤ k → (K (nI (evF R Y q k most now)) r (uI g 0 7 (nI 0)) j) → G (d + 1) 85 19 [(0, .ref 0), (1, .int (nI most)), (2, .int (nI now)), (3, .int (nI k))] [] r g j (rkI K) := by
  have h145 := hV.yo.2.2.2.2.2.2.2.2.2.1.1
  intro q
  induction q with
  | zero =>
    intro k most now hk h1 h2 h
    exact vX9_evenings_19 ⟨fun _ => vX9_answered_0 h, fun a => absurd (by rw [hV.yx.1.2.1]; exact nI_le (by omega) (by omega)) a⟩
  | succ q ih =>
    intro k most now hk h1 h2 h
    refine vX9_evenings_19 ⟨fun a => absurd a (by rw [hV.yx.1.2.1]; exact nI_ge (by omega) (by omega)), fun _ => ⟨p, hV.rp, X_numberHadOn hV (by omega) ?_⟩⟩
    have h9 := numHad_le hV.ro hV.yo (show k < 99 by omega)
    unfold evF at h
    refine ⟨fun e => vX9_evenings_52 ?_, fun e => vX9_evenings_52 ?_⟩
    · rw [nI_z (by omega)] at e
      rw [if_pos e] at h
      rw [nI_add, nI_add, nI_max (by omega) (by omega)]
      exact ih (k + 1) _ _ (by omega) (by split <;> omega) (by omega) h
    · rw [nI_z (by omega)] at e
      rw [if_neg e] at h
      rw [nI_add, nI_max (by omega) (by omega)]
      exact ih (k + 1) _ _ (by omega) (by split <;> omega) (by omega) h
theorem M_ev_loop (hV : Vw n p b R Y r g) : ∀ q k most now, k + q = Y 145 → most ≤ k → now ≤ k → (K (nI (evF R Y q k most now)) r g j) → G (d + 1) 195 23 [(0, .ref 263), (1, .int (nI most)), (2, .int (nI now)), (3, .int (nI k))] [] r g j (rkI K) := by
  have h145 := hV.yo.2.2.2.2.2.2.2.2.2.1
  have h5 := hV.b5
  intro q
  induction q with
  | zero =>
    intro k most now hk h1 h2 h
    exact vX10_evenings_23 (IX_l (by decide) ⟨fun _ => h, fun a => absurd (by rw [hV.ms (by decide)]; exact nI_le (by omega) (by omega)) a⟩)
  | succ q ih =>
    intro k most now hk h1 h2 h
    have hy := h145.2 k (by omega)
    have hz : numHad R Y k = 0 ↔ Y (147 + k) = 0 := by
      unfold numHad
      split
      · rename_i e; exact ⟨fun _ => e, fun _ => rfl⟩
      · rename_i e
        have := hV.ro.2.2.2.2.1 (Y (147 + k) - 1) (by omega)
        exact ⟨fun x => by omega, fun x => absurd x e⟩
    have step : ∀ now', now' ≤ k + 1 → K (nI (evF R Y q (k + 1) (if most < now' then now' else most) now')) r g j → G (d + 1) 195 55 [(0, .ref 263), (1, .int (nI most)), (3, .int (nI k))] [.int (nI now')] r g j (rkI K) := by
      intro now' hn hh
      refine vX10_evenings_55 ⟨fun a => vX10_evenings_66 ?_, fun a => vX10_evenings_66 ?_⟩
      · have := le_n (by omega) (by omega) a
        rw [if_neg (by omega)] at hh
        rw [nI_add]
        exact ih (k + 1) _ _ (by omega) (by omega) hn hh
      · have : most < now' := by
          rcases Nat.lt_or_ge most now' with z | z
          · exact z
          · exact absurd (nI_le z (by omega)) a
        rw [if_pos this] at hh
        rw [nI_add]
        exact ih (k + 1) _ _ (by omega) hn hn hh
    refine vX10_evenings_23 (IX_l (by decide) ⟨fun a => absurd a (by rw [hV.ms (by decide)]; exact nI_ge (by omega) (by omega)), fun _ => IX_e (q := 147 + k) (nI_add 147 k) (by omega) ⟨fun e => ?_, fun e => ?_⟩⟩)
    · rw [hV.ms (by omega), nI_z (by omega), ← hz] at e
      unfold evF at h
      rw [if_pos e] at h
      rw [nI_add]
      exact step _ (by omega) h
    · rw [hV.ms (by omega), nI_z (by omega), ← hz] at e
      unfold evF at h
      rw [if_neg e] at h
      exact step 0 (by omega) h
theorem q_evenings : PQ n p b R Y r (d + 3) 85 195 [] := by
  by_cases hb : b = 0
  · refine ⟨-1, nI 1, e1, fun g j hV => ?_, fun g j hV => ?_⟩
    · exact vX9_evenings_0 ⟨fun _ => X_ref Ag.rf, fun a => absurd (hV.tx0 hb) a⟩
    · exact vX10_evenings_0 (M_good fun g2 ha ht h7 => ⟨fun _ => M_no ha h7, fun a => absurd ((hV.ag ha).tm0 hb) a⟩)
  · refine ⟨nI (evF R Y (Y 145) 0 0 0), nI 0, e0, fun g j hV => ?_, fun g j hV => ?_⟩
    · exact vX9_evenings_0 ⟨fun a => absurd a (hV.tx1 hb), fun _ => X_ev_loop hV (Y 145) 0 0 0 (by omega) (by omega) (by omega) ⟨rfl, rfl, Ag.rf.u rfl, uI_s⟩⟩
    · exact vX10_evenings_0 (M_good fun g2 ha ht h7 => ⟨fun a => absurd a ((hV.ag ha).tm1 hb), fun _ => M_ev_loop (hV.ag ha) (Y 145) 0 0 0 (by omega) (by omega) (by omega) ⟨rfl, rfl, ha, ht, h7⟩⟩)
end
