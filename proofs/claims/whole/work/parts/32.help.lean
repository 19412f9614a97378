/-! SPECS: ways through the class's objects; helpers on both sides; endings -/
theorem blt_t {a b : Nat} (h : a < b) : Nat.blt a b = true := Nat.ble_eq_true_of_le h
theorem SH_p {p : Nat} (hp : p = 2 ∨ p = 30) : SH p = some (.inl 4) := by rcases hp with rfl | rfl <;> rfl
theorem RS_p6 {p : Nat} (hp : p = 2 ∨ p = 30) : RS p 6 = some (p + 2) := by rcases hp with rfl | rfl <;> rfl
theorem RS_p4 {p : Nat} (hp : p = 2 ∨ p = 30) : RS p 4 = some (p + 1) := by rcases hp with rfl | rfl <;> rfl
theorem RS_p8 {p : Nat} (hp : p = 2 ∨ p = 30) : RS p 8 = some (p + 3) := by rcases hp with rfl | rfl <;> rfl
theorem RS_p10 {p : Nat} (hp : p = 2 ∨ p = 30) : RS p 10 = some (p + 4) := by rcases hp with rfl | rfl <;> rfl
theorem SH_p2 {p : Nat} (hp : p = 2 ∨ p = 30) : SH (p + 2) = some (.inr (5, 15)) := by rcases hp with rfl | rfl <;> rfl
theorem SH_p1 {p : Nat} (hp : p = 2 ∨ p = 30) : SH (p + 1) = some (.inr (4, 3)) := by rcases hp with rfl | rfl <;> rfl
theorem SH_p3 {p : Nat} (hp : p = 2 ∨ p = 30) : SH (p + 3) = some (.inr (0, 5)) := by rcases hp with rfl | rfl <;> rfl
theorem SH_p4 {p : Nat} (hp : p = 2 ∨ p = 30) : SH (p + 4) = some (.inr (7, 5)) := by rcases hp with rfl | rfl <;> rfl
theorem RS_cr {p c : Nat} (hp : p = 2 ∨ p = 30) (hc : c < 15) : RS (p + 2) c = some (p + 13 + c) := by
  have e : RS (p + 2) c = (bif Nat.blt c 15 then some (p + 2 + 11 + c) else none) := by rcases hp with rfl | rfl <;> rfl
  rw [e, blt_t hc]
  show some (p + 2 + 11 + c) = _
  congr 1
theorem RS_sh {p s : Nat} (hp : p = 2 ∨ p = 30) (hs : s < 3) : RS (p + 1) s = some (p + 10 + s) := by
  have e : RS (p + 1) s = (bif Nat.blt s 3 then some (p + 1 + 9 + s) else none) := by rcases hp with rfl | rfl <;> rfl
  rw [e, blt_t hs]
  show some (p + 1 + 9 + s) = _
  congr 1
theorem RS_rd {p a : Nat} (hp : p = 2 ∨ p = 30) (ha : a < 5) : RS (p + 4) a = some (p + 5 + a) := by
  have e : RS (p + 4) a = (bif Nat.blt a 5 then some (p + 4 + 1 + a) else none) := by rcases hp with rfl | rfl <;> rfl
  rw [e, blt_t ha]
  show some (p + 4 + 1 + a) = _
  congr 1
theorem lt_rec15 {P : Nat → Prop} (h : ∀ k, k < 15 → P k = True) {c : Nat} (hc : c < 15) : P c := by rw [h c hc]; trivial
theorem SH_cr {p c : Nat} (hp : p = 2 ∨ p = 30) (hc : c < 15) : SH (p + 13 + c) = some (.inl 0) := by
  have h2 : ∀ c, c < 15 → SH (2 + 13 + c) = some (.inl 0) := by decide
  have h3 : ∀ c, c < 15 → SH (30 + 13 + c) = some (.inl 0) := by decide
  rcases hp with rfl | rfl
  · exact h2 c hc
  · exact h3 c hc
theorem SH_sh {p s : Nat} (hp : p = 2 ∨ p = 30) (hs : s < 3) : SH (p + 10 + s) = some (.inl 6) := by
  have h2 : ∀ c, c < 3 → SH (2 + 10 + c) = some (.inl 6) := by decide
  have h3 : ∀ c, c < 3 → SH (30 + 10 + c) = some (.inl 6) := by decide
  rcases hp with rfl | rfl
  · exact h2 s hs
  · exact h3 s hs
theorem SH_rd {p a : Nat} (hp : p = 2 ∨ p = 30) (ha : a < 5) : SH (p + 5 + a) = some (.inr (0, 5)) := by
  have h2 : ∀ c, c < 5 → SH (2 + 5 + c) = some (.inr (0, 5)) := by decide
  have h3 : ∀ c, c < 5 → SH (30 + 5 + c) = some (.inr (0, 5)) := by decide
  rcases hp with rfl | rfl
  · exact h2 a ha
  · exact h3 a ha
/-- port.crates[i] -/
theorem crate_i {p c : Nat} {i : Int32} {r : Rr} {K : Nat → Prop} (hp : p = 2 ∨ p = 30) (hi : i = nI c) (hc : c < 15) (h : K (p + 13 + c)) : OB p 4 (RF (RS p 6) (r p 6) (fun u => AY u (fun t m => bif Nat.beq (fk (aT t)) 2 then IX i m (fun q => RF (RS u q) (r u q) K) else False))) :=
  OB_i (SH_p hp) (RF_i (Or.inl (RS_p6 hp)) (AY_i (SH_p2 hp) (IX_e hi hc (RF_i (Or.inl (RS_cr hp hc)) h))))
/-- port.crates[i].field -/
theorem crate_f {p c : Nat} {i : Int32} {r : Rr} {K : Nat → Prop} (hp : p = 2 ∨ p = 30) (hi : i = nI c) (hc : c < 15) (h : K (p + 13 + c)) : OB p 4 (RF (RS p 6) (r p 6) (fun u => AY u (fun t m => bif Nat.beq (fk (aT t)) 2 then IX i m (fun q => RF (RS u q) (r u q) (fun z => OB z 0 (K z))) else False))) :=
  crate_i hp hi hc (OB_i (SH_cr hp hc) h)
theorem ship_i {p s : Nat} {i : Int32} {r : Rr} {K : Nat → Prop} (hp : p = 2 ∨ p = 30) (hi : i = nI s) (hs : s < 3) (h : K (p + 10 + s)) : OB p 4 (RF (RS p 4) (r p 4) (fun u => AY u (fun t m => bif Nat.beq (fk (aT t)) 2 then IX i m (fun q => RF (RS u q) (r u q) K) else False))) :=
  OB_i (SH_p hp) (RF_i (Or.inl (RS_p4 hp)) (AY_i (SH_p1 hp) (IX_e hi hs (RF_i (Or.inl (RS_sh hp hs)) h))))
theorem ship_f {p s : Nat} {i : Int32} {r : Rr} {K : Nat → Prop} (hp : p = 2 ∨ p = 30) (hi : i = nI s) (hs : s < 3) (h : K (p + 10 + s)) : OB p 4 (RF (RS p 4) (r p 4) (fun u => AY u (fun t m => bif Nat.beq (fk (aT t)) 2 then IX i m (fun q => RF (RS u q) (r u q) (fun z => OB z 6 (K z))) else False))) :=
  ship_i hp hi hs (OB_i (SH_sh hp hs) h)
section
variable {n p b d : Nat} {R Y : Nat → Nat} {r : Rr} {g : Gi} {j : Gl} {K : Int32 → Rr → Gi → Gl → Prop} {x x1 x2 : Int32}
theorem Vw.b4 (hV : Vw n p b R Y r g) : R 4 ≤ 3 := hV.2.2.2.2.2.2.2.1.2.2.1.2.2.2.2.1
theorem Vw.b5 (hV : Vw n p b R Y r g) : R 5 ≤ 15 := hV.2.2.2.2.2.2.2.1.2.2.1.2.2.2.2.2.1
theorem Vw.b6 (hV : Vw n p b R Y r g) : R 6 ≤ 5 := hV.2.2.2.2.2.2.2.1.2.2.1.2.2.2.2.2.2.1
theorem Vw.mr (hV : Vw n p b R Y r g) {k : Nat} (h : k < 348) : g 266 k = nI (R k) := hV.2.2.2.2.1 k h
theorem Vw.ms (hV : Vw n p b R Y r g) {k : Nat} (h : k < 246) : g 268 k = nI (Y k) := hV.2.2.2.2.2.1 k h
theorem Vw.px (hV : Vw n p b R Y r g) : Px p R g := hV.2.2.1
theorem Vw.yx (hV : Vw n p b R Y r g) : Yx 62 R Y g := hV.2.2.2.1
theorem Vw.ro (hV : Vw n p b R Y r g) : RO b R := hV.2.2.2.2.2.2.2.1
theorem Vw.yo (hV : Vw n p b R Y r g) : YO n R Y := hV.2.2.2.2.2.2.2.2.1
theorem Vw.nn (hV : Vw n p b R Y r g) : n ≤ 512 := hV.2.2.2.2.2.2.2.2.2
theorem Vw.hp (hV : Vw n p b R Y r g) : p = 2 ∨ p = 30 := hV.2.1
theorem Vw.rp (hV : Vw n p b R Y r g) : r 0 2 = some p := hV.1
theorem Vw.tx (hV : Vw n p b R Y r g) : g 0 5 = nI b := hV.2.2.2.2.2.2.1.1
theorem Vw.tm (hV : Vw n p b R Y r g) : g 263 14 = nI b := hV.2.2.2.2.2.2.1.2.1
theorem Vw.b01 (hV : Vw n p b R Y r g) : b = 0 ∨ b = 1 := hV.2.2.2.2.2.2.1.2.2
theorem Vw.z (hV : Vw n p b R Y r g) (k : Nat) : (b = 0 ∧ R k = 0) ∨ b = 1 := by
  rcases hV.b01 with h | h
  · exact Or.inl ⟨h, hV.ro.1 h k⟩
  · exact Or.inr h
theorem X_noShip (hV : Vw n p b R Y r g) (h0 : ∀ k, k < R 4 → x = nI k → K (nI 0) r g j) (h1 : out x (R 4) → K (nI 1) r g j) : Cm d 125 [.ref 0, .int x] r g j (rkI K) := by
  have hb := hV.b4
  rcases in_or x (n := R 4) (by omega) with ⟨k, hk, e⟩ | ho
  · have h2 := h0 k hk e
    subst e
    refine vX9_noShip_0 ⟨fun a => absurd a (nlt_0 (by omega)), fun _ => ⟨p, hV.rp, OB_i (SH_p hV.hp) ⟨fun _ => ⟨bo0, h2⟩, fun a => absurd ?_ a⟩⟩⟩
    rw [hV.px.1.2.2.2.2.1]
    exact nI_lt hk (by omega)
  · have h2 := h1 ho
    refine vX9_noShip_0 ⟨fun a => ⟨bo1, h2⟩, fun a0 => ⟨p, hV.rp, OB_i (SH_p hV.hp) ⟨fun a => absurd a ?_, fun _ => ⟨bo1, h2⟩⟩⟩⟩
    rw [hV.px.1.2.2.2.2.1]
    exact out_nlt (by omega) ho a0
theorem X_noCrate (hV : Vw n p b R Y r g) (h0 : ∀ k, k < R 5 → x = nI k → K (nI 0) r g j) (h1 : out x (R 5) → K (nI 1) r g j) : Cm d 127 [.ref 0, .int x] r g j (rkI K) := by
  have hb := hV.b5
  rcases in_or x (n := R 5) (by omega) with ⟨k, hk, e⟩ | ho
  · have h2 := h0 k hk e
    subst e
    refine vX9_noCrate_0 ⟨fun a => absurd a (nlt_0 (by omega)), fun _ => ⟨p, hV.rp, OB_i (SH_p hV.hp) ⟨fun _ => ⟨bo0, h2⟩, fun a => absurd ?_ a⟩⟩⟩
    rw [hV.px.1.2.2.2.2.2.1]
    exact nI_lt hk (by omega)
  · have h2 := h1 ho
    refine vX9_noCrate_0 ⟨fun a => ⟨bo1, h2⟩, fun a0 => ⟨p, hV.rp, OB_i (SH_p hV.hp) ⟨fun a => absurd a ?_, fun _ => ⟨bo1, h2⟩⟩⟩⟩
    rw [hV.px.1.2.2.2.2.2.1]
    exact out_nlt (by omega) ho a0
theorem X_noTown (hV : Vw n p b R Y r g) (h0 : ∀ k, k < R 6 → x = nI k → K (nI 0) r g j) (h1 : out x (R 6) → K (nI 1) r g j) : Cm d 128 [.ref 0, .int x] r g j (rkI K) := by
  have hb := hV.b6
  rcases in_or x (n := R 6) (by omega) with ⟨k, hk, e⟩ | ho
  · have h2 := h0 k hk e
    subst e
    refine vX9_noTown_0 ⟨fun a => absurd a (nlt_0 (by omega)), fun _ => ⟨p, hV.rp, OB_i (SH_p hV.hp) ⟨fun _ => ⟨bo0, h2⟩, fun a => absurd ?_ a⟩⟩⟩
    rw [hV.px.1.2.2.2.2.2.2.1]
    exact nI_lt hk (by omega)
  · have h2 := h1 ho
    refine vX9_noTown_0 ⟨fun a => ⟨bo1, h2⟩, fun a0 => ⟨p, hV.rp, OB_i (SH_p hV.hp) ⟨fun a => absurd a ?_, fun _ => ⟨bo1, h2⟩⟩⟩⟩
    rw [hV.px.1.2.2.2.2.2.2.1]
    exact out_nlt (by omega) ho a0
theorem X_noStack (hV : Vw n p b R Y r g) (h0 : ∀ k t, k < R 4 → t < 3 → x1 = nI k → x2 = nI t → K (nI 0) r g j) (h1 : (out x1 (R 4) ∨ out x2 3) → K (nI 1) r g j) : Cm (d + 1) 126 [.ref 0, .int x1, .int x2] r g j (rkI K) := by
  refine vX9_noStack_0 (X_noShip hV (fun k hk e => ⟨fun _ => ?_, fun a => absurd n00 a⟩) (fun o => ⟨fun a => absurd a n10, fun _ => ⟨bo1, h1 (Or.inl o)⟩⟩))
  rcases in_or x2 (n := 3) (by decide) with ⟨t, ht, e2⟩ | ho
  · have h2 := h0 k t hk ht e e2
    subst e2
    exact ⟨fun a => absurd a (nlt_0 (by omega)), fun _ => ⟨fun _ => ⟨bo0, h2⟩, fun a => absurd (nI_lt ht (by omega)) a⟩⟩
  · have h2 := h1 (Or.inr ho)
    exact ⟨fun _ => ⟨bo1, h2⟩, fun a0 => ⟨fun a => absurd a (out_nlt (by decide) ho a0), fun _ => ⟨bo1, h2⟩⟩⟩
theorem M_isShip (hV : Vw n p b R Y r g) (h1 : ∀ k, k < R 4 → x = nI k → K (nI 1) r g j) (h0 : out x (R 4) → K (nI 0) r g j) : Cm (d + 1) 176 [.ref 263, .int x] r g j (rkI K) := by
  have hb := hV.b4
  exact sM_isShip (by omega) hV.tm (hV.z 4) (hV.mr (by decide)) h1 h0
theorem M_isCrate (hV : Vw n p b R Y r g) (h1 : ∀ k, k < R 5 → x = nI k → K (nI 1) r g j) (h0 : out x (R 5) → K (nI 0) r g j) : Cm (d + 1) 177 [.ref 263, .int x] r g j (rkI K) := by
  have hb := hV.b5
  refine vX10_isCrate_0 ⟨fun a => ⟨bo0, h0 ?_⟩, fun a => IX_l (by decide) ?_⟩
  · rcases hV.z 5 with ⟨-, e⟩ | e
    · intro k hk; omega
    · rw [hV.tm, e] at a; exact absurd a n10
  · rw [hV.mr (by decide)]
    exact sM_in (by omega) (fun k hk e => ⟨fun a => absurd a n10, fun _ => ⟨bo1, h1 k hk e⟩⟩) (fun o => ⟨fun _ => ⟨bo0, h0 o⟩, fun a => absurd n00 a⟩)
theorem M_isTown (hV : Vw n p b R Y r g) (h1 : ∀ k, k < R 6 → x = nI k → K (nI 1) r g j) (h0 : out x (R 6) → K (nI 0) r g j) : Cm (d + 1) 178 [.ref 263, .int x] r g j (rkI K) := by
  have hb := hV.b6
  refine vX10_isTown_0 ⟨fun a => ⟨bo0, h0 ?_⟩, fun a => IX_l (by decide) ?_⟩
  · rcases hV.z 6 with ⟨-, e⟩ | e
    · intro k hk; omega
    · rw [hV.tm, e] at a; exact absurd a n10
  · rw [hV.mr (by decide)]
    exact sM_in (by omega) (fun k hk e => ⟨fun a => absurd a n10, fun _ => ⟨bo1, h1 k hk e⟩⟩) (fun o => ⟨fun _ => ⟨bo0, h0 o⟩, fun a => absurd n00 a⟩)
/-- in(x, 0, m), m a number of the code -/
theorem M_in (m : Nat) (hm : m < 2 ^ 30) (h1 : ∀ k, k ≤ m → x = nI k → K (nI 1) r g j) (h0 : out x (m + 1) → K (nI 0) r g j) : Cm d 144 [.int x, .int (nI 0), .int (nI m)] r g j (rkI K) := by
  have e : nI m = nI (m + 1) - nI 1 := by rw [pk_sub (by omega)]; rfl
  rw [e]
  exact sM_in (by omega) (fun k hk => h1 k (by omega)) h0
theorem M_isStack (hV : Vw n p b R Y r g) (h1 : ∀ k t, k < R 4 → t < 3 → x1 = nI k → x2 = nI t → K (nI 1) r g j) (h0 : (out x1 (R 4) ∨ out x2 3) → K (nI 0) r g j) : Cm (d + 2) 182 [.ref 263, .int x1, .int x2] r g j (rkI K) := by
  refine vX10_isStack_0 (M_isShip hV (fun k hk e => ⟨fun a => absurd a n10, fun _ => M_in 2 (by decide) (fun t ht e2 => ⟨fun a => absurd a n10, fun _ => ⟨bo1, h1 k t hk (by omega) e e2⟩⟩) (fun o => ⟨fun _ => ⟨bo0, h0 (Or.inr o)⟩, fun a => absurd n00 a⟩)⟩) (fun o => ⟨fun _ => ⟨bo0, h0 (Or.inl o)⟩, fun a => absurd n00 a⟩))
/-- what a call answers: v, with trouble e; lasting cells stay -/
def EX (v e : Int32) (r : Rr) (g : Gi) : Int32 → Rr → Gi → Gl → Prop := fun v' r' g' _ => v' = v ∧ r' = r ∧ Ag g g' ∧ g' 0 7 = e
def EM (v e : Int32) (r : Rr) (g : Gi) : Int32 → Rr → Gi → Gl → Prop := fun v' r' g' _ => v' = v ∧ r' = r ∧ Ag g g' ∧ g' 263 11 = e ∧ g' 0 7 = g 0 7
theorem X_ans {v : Int32} {g0 : Gi} (h : Ag g0 g) : Cm d 122 [.ref 0, .int v] r g j (rkI (EX v (nI 0) r g0)) := vX9_answered_0 ⟨rfl, rfl, h.u rfl, uI_s⟩
theorem X_ref {e : Int32} {g0 : Gi} (h : Ag g0 g) : Cm d 121 [.ref 0, .int e] r g j (rkI (EX (-1) e r g0)) := vX9_refused_0 ⟨rfl, rfl, h.u rfl, uI_s⟩
theorem M_good {K : Rr → Gi → Gl → Prop} (h : ∀ g2, Ag g g2 → g2 263 11 = nI 0 → g2 0 7 = g 0 7 → K r g2 j) : Cm d 141 [.ref 263] r g j (rkV K) := vX10_good_0 (h _ ((Ag.rf.u rfl).u rfl) uI_s rfl)
theorem M_no {e : Int32} {g0 : Gi} (h : Ag g0 g) (h7 : g 0 7 = g0 0 7) : Cm d 142 [.ref 263, .int e] r g j (rkI (EM (-1) e r g0)) := vX10_no_0 ⟨rfl, rfl, h.u rfl, uI_s, h7⟩
end
/-- both sides answer alike, whatever the lasting cells' holder looks like; trouble isn't 4 -/
def PQ (n p b : Nat) (R Y : Nat → Nat) (r : Rr) (d xm mm : Nat) (as : List Value) : Prop := ∃ v e : Int32, e ≠ nI 4 ∧
  (∀ g j, Vw n p b R Y r g → Cm d xm (.ref 0 :: as) r g j (rkI (EX v e r g))) ∧ (∀ g j, Vw n p b R Y r g → Cm d mm (.ref 263 :: as) r g j (rkI (EM v e r g)))
theorem e0 : nI 0 ≠ nI 4 := by decide +kernel
theorem e1 : nI 1 ≠ nI 4 := by decide +kernel
theorem e2 : nI 2 ≠ nI 4 := by decide +kernel
theorem e5 : nI 5 ≠ nI 4 := by decide +kernel
theorem e6 : nI 6 ≠ nI 4 := by decide +kernel
theorem e3 : nI 3 ≠ nI 4 := by decide +kernel
theorem q_high {n p b d : Nat} {R Y : Nat → Nat} {r : Rr} (x1 x2 : Int32) (h4 : R 4 ≤ 3) : PQ n p b R Y r (d + 3) 78 185 [.int x1, .int x2] := by
  by_cases hv : ∃ k t, k < R 4 ∧ t < 3 ∧ x1 = nI k ∧ x2 = nI t
  · obtain ⟨k, t, hk, ht, rfl, rfl⟩ := hv
    refine ⟨nI (Y (120 + (3 * k + t))), nI 0, e0, fun g j hV => ?_, fun g j hV => ?_⟩
    · refine vX9_high_0 (X_noStack hV (fun k' t' _ _ _ _ => ⟨fun _ => vX8_height_0 (IX_e (q := 3 * k + t) ?_ (by omega) ?_), fun a => absurd n00 a⟩) (fun o => (o.elim (fun o => o k hk rfl) (fun o => o t ht rfl)).elim))
      · rw [pk_mul, nI_add]; congr 1; omega
      · rw [(hV.yx.2.1 (3 * k + t) (by omega)).1]
        exact X_ans Ag.rf
    · refine vX10_high_0 (M_good fun g2 ha ht2 h7 => M_isStack (hV.ag ha) (fun k' t' _ _ _ _ => ⟨fun a => absurd a n10, fun _ => vX10_highOf_0 (IX_e (q := 120 + (3 * k + t)) ?_ (by omega) ?_)⟩) (fun o => (o.elim (fun o => o k hk rfl) (fun o => o t ht rfl)).elim))
      · rw [pk_mul, nI_add, nI_add, Nat.add_assoc]
      · exact ⟨(hV.ag ha).ms (by omega), rfl, ha, ht2, h7⟩
  · refine ⟨-1, nI 1, e1, fun g j hV => ?_, fun g j hV => ?_⟩
    · exact vX9_high_0 (X_noStack hV (fun k t hk ht e1 e2 => absurd ⟨k, t, hk, ht, e1, e2⟩ hv) (fun o => ⟨fun a => absurd a n10, fun _ => X_ref Ag.rf⟩))
    · exact vX10_high_0 (M_good fun g2 ha ht2 h7 => M_isStack (hV.ag ha) (fun k t hk ht e1 e2 => absurd ⟨k, t, hk, ht, e1, e2⟩ hv) (fun o => ⟨fun _ => M_no ha h7, fun a => absurd n00 a⟩))
