/-! feed; what is only told: fault, where, trouble, size -/
def bY (y : Int32) : Nat := y.toBitVec.toNat % 256
theorem bY_lt (y : Int32) : bY y < 256 := Nat.mod_lt _ (by decide)
theorem nI_bv {k : Nat} (h : k < 2 ^ 32) : (nI k).toBitVec.toNat = k := by
  show (BitVec.ofNat 32 k).toNat = k
  rw [BitVec.toNat_ofNat]
  exact Nat.mod_eq_of_lt h
theorem bY_a (y : Int32) : y &&& nI 255 = nI (bY y) := by
  apply Int32.toBitVec_inj.mp
  apply BitVec.eq_of_toNat_eq
  rw [Int32.toBitVec_and, BitVec.toNat_and, nI_bv (by decide), nI_bv (by have := bY_lt y; omega)]
  exact Nat.and_two_pow_sub_one_eq_mod (n := 8) y.toBitVec.toNat
theorem low8 (x y : BitVec 32) (h : x.toNat % 256 = y.toNat % 256) : x.signExtend 8 = y.signExtend 8 := by
  apply BitVec.eq_of_getLsbD_eq
  intro i hi
  rw [BitVec.getLsbD_signExtend, BitVec.getLsbD_signExtend]
  have h32 : i < 32 := by omega
  simp only [hi, h32, decide_true, Bool.true_and, if_true]
  have e : ∀ n : Nat, n.testBit i = (n % 256).testBit i := fun n => by
    rw [show (256 : Nat) = 2 ^ 8 from rfl, Nat.testBit_mod_two_pow]
    simp only [hi, decide_true, Bool.true_and]
  show x.toNat.testBit i = y.toNat.testBit i
  rw [e x.toNat, e y.toNat, h]
theorem bY_x (y : Int32) : y.toInt8.toInt32 = (nI (bY y)).toInt8.toInt32 := by
  congr 1
  apply Int8.toBitVec_inj.mp
  show y.toBitVec.signExtend 8 = (nI (bY y)).toBitVec.signExtend 8
  apply low8
  rw [nI_bv (by have := bY_lt y; omega)]
  unfold bY
  omega
theorem b8_b8 (y : Int32) : (y.toInt8.toInt32).toInt8.toInt32 = y.toInt8.toInt32 := by
  have : y.toInt8.toInt32.toInt8 = y.toInt8 := Int8.toInt8_toInt32 _
  rw [this]
/-- a call that only tells keeps all -/
theorem J_same {n : Nat} {r : Rr} {g g' : Gi} (hn : n + 1 ≤ 512) (h : J n r g) (ha : Ag g g') (h7 : g' 0 7 = g 0 7) (h11 : g' 263 11 = g 263 11) : J (n + 1) r g' := by
  obtain ⟨p, p', b, kc, ic, T, R, Y, σ, KY, IY, τ, j1, j2, j3, j4, j5, j6, j7, j8⟩ := h
  exact ⟨p, p', b, kc, ic, T, R, Y, σ, KY, IY, τ, (j1.ag ha).up hn, j2, j3.ag ha, ⟨by rw [ha 0 6 rfl, ha 263 9 rfl]; exact j4.1, by rw [h7, h11]; exact j4.2.1, fun e => by rw [ha 58 17 rfl, ha 263 10 rfl]; exact j4.2.2 (by rw [← h7]; exact e)⟩, (j5.ag ha).up, (j6.ag ha).up, j7.ag ha, j8⟩
theorem J_t0 {n : Nat} {r : Rr} {g : Gi} (hn : n + 1 ≤ 512) (h : J n r g) : J (n + 1) r (uI g 263 0 (nI 0)) := J_same hn h (Ag.rf.u rfl) rfl (uI_n (by decide))
section
variable {n d : Nat} {r : Rr} {g : Gi} {j : Gl}
theorem J.ft (h : J n r g) : Ft g := by
  obtain ⟨p, p', b, kc, ic, T, R, Y, σ, KY, IY, τ, j1, j2, j3, j4, -⟩ := h
  exact j4
theorem o_fault (hn : n + 1 ≤ 512) (hJ : J n r g) : OPi d 75 174 [] n r g j := vX9_fault_0 (vX10_fault_0 ⟨hJ.ft.1, J_t0 hn hJ⟩)
theorem o_trouble (hn : n + 1 ≤ 512) (hJ : J n r g) : OPi d 120 253 [] n r g j := vX9_trouble_0 (vX10_trouble_0 ⟨hJ.ft.2.1, J_t0 hn hJ⟩)
theorem o_where (hn : n + 1 ≤ 512) (hJ : J n r g) : OPi d 76 175 [] n r g j := by
  have hf := hJ.ft
  refine vX9_where_0 ⟨fun a => vX10_where_0 ⟨fun _ => ⟨hf.2.2 a, J_t0 hn hJ⟩, fun e => absurd (hf.2.1 ▸ a) e⟩, fun a => vX10_where_0 ⟨fun e => absurd (hf.2.1.trans e) a, fun _ => ⟨rfl, J_t0 hn hJ⟩⟩⟩
/-- how many of the first n crates are opened -/
def opN (Y : Nat → Nat) : Nat → Nat
  | 0 => 0
  | n + 1 => opN Y n + (if Y (60 + n) = 0 then 0 else 1)
theorem opN_le (Y : Nat → Nat) : ∀ n, opN Y n ≤ n := by
  intro n
  induction n with
  | zero => exact Nat.le_refl _
  | succ n ih => show opN Y n + _ ≤ n + 1; split <;> omega
theorem X_openedCount {p b : Nat} {R Y : Nat → Nat} {K : Int32 → Rr → Gi → Gl → Prop} (hV : Vw n p b R Y r g) (h : K (nI (opN Y 15)) r g j) : Cm d 65 [.ref 62] r g j (rkI K) := by
  have loop : ∀ q i, i + q = 15 → G d 65 4 [(0, .ref 62), (1, .int (nI (opN Y i))), (2, .int (nI i))] [] r g j (rkI K) := by
    intro q
    induction q with
    | zero =>
      intro i hi
      have : i = 15 := by omega
      subst this
      exact vX8_openedCount_4 ⟨fun _ => h, fun a => absurd (Int32.le_refl _) a⟩
    | succ q ih =>
      intro i hi
      have e68 : g 68 i = nI (opx (Y (60 + i))) := hV.yx.2.2.2.1 i (by omega)
      have h2 := (hV.yo.2.2.2.2.2.2.2.2.1 i (by omega)).1
      have hz : opx (Y (60 + i)) = 0 ↔ Y (60 + i) = 0 := by
        have : Y (60 + i) = 0 ∨ Y (60 + i) = 1 ∨ Y (60 + i) = 2 := by omega
        rcases this with e | e | e <;> rw [e] <;> decide
      have hl : opx (Y (60 + i)) ≤ 2 := by
        have : Y (60 + i) = 0 ∨ Y (60 + i) = 1 ∨ Y (60 + i) = 2 := by omega
        rcases this with e | e | e <;> rw [e] <;> decide
      have ih := ih (i + 1) (by omega)
      have es : opN Y (i + 1) = opN Y i + (if Y (60 + i) = 0 then 0 else 1) := rfl
      refine vX8_openedCount_4 ⟨fun a => absurd a (nI_ge (by omega) (by omega)), fun _ => IX_l (by omega) ⟨fun a => vX8_openedCount_22 ?_, fun a => vX8_openedCount_22 ?_⟩⟩
      · rw [e68, nI_z (by omega), hz] at a
        rw [if_pos a] at es
        rw [nI_add, ← Nat.add_zero (opN Y i), ← es]; exact ih
      · rw [e68, nI_z (by omega), hz] at a
        rw [if_neg a] at es
        rw [nI_add, nI_add, ← es]; exact ih
  exact vX8_openedCount_0 (loop 15 0 (by decide))
theorem M_openedNow {p b : Nat} {R Y : Nat → Nat} {K : Int32 → Rr → Gi → Gl → Prop} (hV : Vw n p b R Y r g) (h : K (nI (opN Y (R 5))) r g j) : Cm d 251 [.ref 263] r g j (rkI K) := by
  have h5 := hV.b5
  have loop : ∀ q i, i + q = R 5 → G d 251 4 [(0, .ref 263), (1, .int (nI (opN Y i))), (2, .int (nI i))] [] r g j (rkI K) := by
    intro q
    induction q with
    | zero =>
      intro i hi
      have : i = R 5 := by omega
      subst this
      refine vX10_openedNow_4 (IX_l (by decide) ⟨fun _ => h, fun a => absurd ?_ a⟩)
      rw [hV.mr (by decide)]; exact Int32.le_refl _
    | succ q ih =>
      intro i hi
      have h2 := (hV.yo.2.2.2.2.2.2.2.2.1 i (by omega)).1
      have ih := ih (i + 1) (by omega)
      have es : opN Y (i + 1) = opN Y i + (if Y (60 + i) = 0 then 0 else 1) := rfl
      refine vX10_openedNow_4 (IX_l (by decide) ⟨fun a => ?_, fun _ => IX_e (q := 60 + i) (nI_add 60 i) (by omega) ⟨fun a => vX10_openedNow_32 ?_, fun a => vX10_openedNow_32 ?_⟩⟩)
      · rw [hV.mr (by decide)] at a; exact absurd a (nI_ge (by omega) (by omega))
      · rw [hV.ms (by omega), ← nI_0] at a
        have := le_n (by omega) (by decide) a
        rw [if_pos (by omega)] at es
        rw [nI_add, nI_add, ← es]; exact ih
      · rw [hV.ms (by omega), ← nI_0] at a
        have : ¬ Y (60 + i) = 0 := fun e => a (by rw [e]; exact Int32.le_refl _)
        rw [if_neg this] at es
        rw [nI_add, nI_add, ← es]; exact ih
  exact vX10_openedNow_0 (loop (R 5) 0 (by omega))
theorem opN_tail {Y : Nat → Nat} {a : Nat} : ∀ q, (∀ c, a ≤ c → c < a + q → Y (60 + c) = 0) → opN Y (a + q) = opN Y a := by
  intro q
  induction q with
  | zero => intro _; rfl
  | succ q ih =>
    intro h
    show opN Y (a + q) + (if Y (60 + (a + q)) = 0 then 0 else 1) = _
    rw [if_pos (h (a + q) (by omega) (by omega)), ih (fun c h1 h2 => h c h1 (by omega))]
    rfl
theorem o_size (hn : n + 1 ≤ 512) (hJ : J n r g) (x1 : Int32) : OPi (d + 1) 119 252 [.int x1] n r g j := by
  have hJ' := J_t0 hn hJ
  obtain ⟨p, p', b, kc, ic, T, R, Y, σ, KY, IY, τ, hj⟩ := id hJ
  obtain ⟨hX, hM, hP⟩ := hj.xs
  have hV := hj.1
  have hA : Ag g (uI g 263 0 (nI 0)) := Ag.rf.u rfl
  have hV2 := hV.ag hA
  -- what both tell, by the number
  have go : ∀ v : Int32, Cm (d + 1) 252 [.ref 263, .int x1] r g j (rkI fun v' r2 g2 j2 => v = v' ∧ J (n + 1) r2 g2) → rkI (fun v r1 g1 j1 => Cm (d + 1) 252 [.ref 263, .int x1] r1 g1 j1 (rkI fun v' r2 g2 j2 => v = v' ∧ J (n + 1) r2 g2)) (some (.int v)) r g j := fun v h => h
  have hpx := hV.px.1
  have hyx := hV.yx.1
  have h5 := hV.b5
  rcases hV.b01 with hb | hb
  · have hz := fun k => hV.ro.1 hb k
    have hzy := hj.2.2.2.2.2.2.2 hb
    have e14 : g 263 14 = 0 := by rw [hV.tm, hb]; exact n00
    have hk := hP.2.2.2.1.2 hb
    have hi := hP.2.2.2.2.2.1.2 hb
    have hm : ∀ v : Int32, ¬ x1 = nI 12 → ((∃ k, k < 12 ∧ x1 = nI k) → v = nI 0) → (out x1 12 → v = -1) → Cm (d + 1) 252 [.ref 263, .int x1] r g j (rkI fun v' r2 g2 j2 => v = v' ∧ J (n + 1) r2 g2) := fun v h12 h1 h2 =>
      vX10_size_0 ⟨fun a => absurd a h12, fun _ => ⟨fun _ => M_in 11 (by decide) (fun k hk e => ⟨fun a => absurd a n10, fun _ => ⟨h1 ⟨k, by omega, e⟩, hJ'⟩⟩) (fun o => ⟨fun _ => ⟨h2 o, hJ'⟩, fun a => absurd n00 a⟩), fun a => absurd e14 a⟩⟩
    have hk1 : ∀ v : Int32, ∀ k, k < 12 → x1 = nI k → v = nI 0 → Cm (d + 1) 252 [.ref 263, .int x1] r g j (rkI fun v' r2 g2 j2 => v = v' ∧ J (n + 1) r2 g2) := fun v k hk e hv =>
      hm v (fun e2 => by rw [e, nI_eq (by omega) (by decide)] at e2; omega) (fun _ => hv) (fun o => absurd e (o k hk))
    refine vX9_size_0 ⟨fun a => ⟨p, hV.rp, OB_i (SH_p hV.hp) (hk1 _ 0 (by decide) a (by rw [hpx.1, hz]))⟩, fun a0 => ⟨fun a => ⟨p, hV.rp, OB_i (SH_p hV.hp) (hk1 _ 1 (by decide) a (by rw [hpx.2.1, hz]))⟩, fun a1 => ⟨fun a => ⟨p, hV.rp, OB_i (SH_p hV.hp) (hk1 _ 2 (by decide) a (by rw [hpx.2.2.2.2.1, hz]))⟩, fun a2 => ⟨fun a => ⟨p, hV.rp, OB_i (SH_p hV.hp) (hk1 _ 3 (by decide) a (by rw [hpx.2.2.2.2.2.1, hz]))⟩, fun a3 => ⟨fun a => ⟨p, hV.rp, OB_i (SH_p hV.hp) (hk1 _ 4 (by decide) a (by rw [hpx.2.2.2.2.2.2.1, hz]))⟩, fun a4 => ⟨fun a => ⟨p, hV.rp, OB_i (SH_p hV.hp) (hk1 _ 5 (by decide) a (by rw [hpx.2.2.2.2.2.2.2, hz]))⟩, fun a5 => ⟨fun a => X_openedCount hV (hk1 _ 6 (by decide) a ?_), fun a6 => ⟨fun a => hk1 _ 7 (by decide) a (by rw [hyx.2.1, hzy]), fun a7 => ⟨fun a => hk1 _ 8 (by decide) a (by rw [hyx.2.2, hzy]), fun a8 => ⟨fun a => hk1 _ 9 (by decide) a (by rw [hyx.1, hzy]), fun a9 => ⟨fun a => hk1 _ 10 (by decide) a (by rw [hX.2.2.2.2.2.2.1.2.2.1, hk]), fun a10 => ⟨fun a => hk1 _ 11 (by decide) a (by rw [hX.2.2.2.2.2.2.2.1.1, hi]), fun a11 => ⟨fun a => ?_, fun a12 => ?_⟩⟩⟩⟩⟩⟩⟩⟩⟩⟩⟩⟩⟩
    · have e : opN Y 15 = opN Y 0 := by
        have := opN_tail (Y := Y) (a := 0) 15 (fun c _ _ => hzy _)
        rw [Nat.zero_add] at this; exact this
      rw [e]; rfl
    · refine vX10_size_0 ⟨fun _ => ⟨?_, hJ'⟩, fun e => absurd a e⟩
      rw [hX.2.2.2.2.2.2.2.2.1, hM.2.2.2.2.2.1]
    · refine hm _ a12 (fun ⟨k, hk, e⟩ => ?_) (fun _ => rfl)
      exfalso
      have hc : k = 0 ∨ k = 1 ∨ k = 2 ∨ k = 3 ∨ k = 4 ∨ k = 5 ∨ k = 6 ∨ k = 7 ∨ k = 8 ∨ k = 9 ∨ k = 10 ∨ k = 11 := by omega
      rcases hc with rfl | rfl | rfl | rfl | rfl | rfl | rfl | rfl | rfl | rfl | rfl | rfl
      · exact a0 e
      · exact a1 e
      · exact a2 e
      · exact a3 e
      · exact a4 e
      · exact a5 e
      · exact a6 e
      · exact a7 e
      · exact a8 e
      · exact a9 e
      · exact a10 e
      · exact a11 e
  · have e14 : ¬ g 263 14 = 0 := by rw [hV.tm, hb]; exact n10
    have nn : ∀ k k', k < 100 → k' < 100 → k ≠ k' → ¬ nI k = nI k' := fun k k' h1 h2 h3 e => h3 ((nI_eq (by omega) (by omega)).mp e)
    refine vX9_size_0 ⟨fun a => ⟨p, hV.rp, OB_i (SH_p hV.hp) ?_⟩, fun a0 => ⟨fun a => ⟨p, hV.rp, OB_i (SH_p hV.hp) ?_⟩, fun a1 => ⟨fun a => ⟨p, hV.rp, OB_i (SH_p hV.hp) ?_⟩, fun a2 => ⟨fun a => ⟨p, hV.rp, OB_i (SH_p hV.hp) ?_⟩, fun a3 => ⟨fun a => ⟨p, hV.rp, OB_i (SH_p hV.hp) ?_⟩, fun a4 => ⟨fun a => ⟨p, hV.rp, OB_i (SH_p hV.hp) ?_⟩, fun a5 => ⟨fun a => X_openedCount hV ?_, fun a6 => ⟨fun a => ?_, fun a7 => ⟨fun a => ?_, fun a8 => ⟨fun a => ?_, fun a9 => ⟨fun a => ?_, fun a10 => ⟨fun a => ?_, fun a11 => ⟨fun a => ?_, fun a12 => ?_⟩⟩⟩⟩⟩⟩⟩⟩⟩⟩⟩⟩⟩ <;> refine vX10_size_0 ⟨fun b12 => ?_, fun b12 => ⟨fun a' => absurd a' e14, fun _ => ⟨fun b0 => ?_, fun b0 => ⟨fun b1 => ?_, fun b1 => ⟨fun b2 => ?_, fun b2 => ⟨fun b3 => ?_, fun b3 => ⟨fun b4 => ?_, fun b4 => ⟨fun b5 => ?_, fun b5 => ⟨fun b6 => ?_, fun b6 => ⟨fun b7 => ?_, fun b7 => ⟨fun b8 => ?_, fun b8 => ⟨fun b9 => ?_, fun b9 => ⟨fun b10 => ?_, fun b10 => ⟨fun b11 => ?_, fun b11 => ?_⟩⟩⟩⟩⟩⟩⟩⟩⟩⟩⟩⟩⟩⟩
    all_goals first
      | exact absurd (a.symm.trans ‹x1 = _›) (by decide +kernel)
      | exact absurd a ‹_›
      | exact absurd ‹x1 = _› ‹_›
      | exact IX_l (by decide) ⟨by rw [hV.mr (by decide)]; first | exact hpx.1 | exact hpx.2.1 | exact hpx.2.2.2.2.1 | exact hpx.2.2.2.2.2.1 | exact hpx.2.2.2.2.2.2.1 | exact hpx.2.2.2.2.2.2.2, hJ'⟩
      | exact IX_l (by decide) ⟨by rw [hV.ms (by decide)]; first | exact hyx.1 | exact hyx.2.1 | exact hyx.2.2, hJ'⟩
      | exact ⟨by rw [hX.2.2.2.2.2.2.1.2.2.1, hM.2.2.2.1.1], hJ'⟩
      | exact ⟨by rw [hX.2.2.2.2.2.2.2.1.1, hM.2.2.2.2.1.1], hJ'⟩
      | exact ⟨by rw [hX.2.2.2.2.2.2.2.2.1, hM.2.2.2.2.2.1], hJ'⟩
      | exact ⟨rfl, hJ'⟩
      | skip
    refine M_openedNow hV2 ⟨?_, hJ'⟩
    congr 1
    have := opN_tail (Y := Y) (a := R 5) (15 - R 5) (fun c h1 h2 => (hV.yo.2.2.2.2.2.2.2.2.1 c (by omega)).2 h1)
    rw [show R 5 + (15 - R 5) = 15 by omega] at this
    exact this
end
