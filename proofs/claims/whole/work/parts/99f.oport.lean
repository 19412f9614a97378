/-! port, on both sides -/
section
variable {d n : Nat} {r : Rr} {g : Gi} {j : Gl}
theorem o_port (hn : n + 1 ≤ 512) (hJ : J n r g) (x1 : Int32) : OPi (d + 12) 74 165 [.int x1] n r g j := by
  obtain ⟨p, p', b, kc, ic, T, R, Y, σ, KY, IY, τ, hj⟩ := id hJ
  obtain ⟨hX, hM, hP⟩ := hj.xs
  have hT : T ≤ 1000 := hP.2.2.2.2.2.2.2.1.1
  have hτ := hP.2.2.2.2.2.2.2.1.2
  have e1 : g 0 1 = nI T := hX.2.2.2.2.2.2.2.2.1
  have e2 : g 263 2 = nI T := hM.2.2.2.2.2.1
  have t5 := hM.2.2.2.2.2.2
  rcases in_or x1 (n := T + 1) (by omega) with ⟨m, hm, rfl⟩ | ho
  · obtain ⟨a1, ⟨a2, app⟩, a3, a4, a5, a6, ⟨k1, k2, k5, k7⟩, ⟨i5, i7⟩, t2, t4⟩ := hX
    have hp : p = 2 ∨ p = 30 := by rcases app with h | h <;> omega
    have hp' : p' = 2 ∨ p' = 30 := by rcases app with h | h <;> omega
    have hb := hP.hb
    have hk16 : kc ≤ 16 := hP.2.2.2.1.1
    have hi3 : ic ≤ 3 := hP.2.2.2.2.2.1.1
    have htx : ∀ i, i < m → τ i < 256 ∧ (uI g 0 1 (nI 0)) 1 i = sb (τ i) := fun i hi => ⟨hτ i (by omega), by rw [uI_o (by decide)]; exact t4 i (by omega)⟩
    have good : ∀ e' F' g3 j3, txt m τ (m + 1) 0 0 (fun _ => 0) = .inr (e', F') → XT m τ e' p' F' g3 j3 → LnF p' (uI g 0 1 (nI 0)) g3 j j3 → Cm (d + 11) 57 [.ref 62, .ref p'] (uR (uR (uR r 58 2 (some p')) 0 2 (some p')) 0 3 (some p)) (uI (uI g3 0 6 (g3 58 16)) 0 5 (nI 1)) j3 (rkV (fun r9 g10 j11 => (∃ u12 : Nat, (r9 0 2) = some u12 ∧ (Cm (d + 11) 3 [.ref 81, .ref u12] r9 (uI (uI g10 0 10 (nI 0)) 0 12 (nI 0)) j11 (rkV (fun r13 g14 j15 => (∃ u16 : Nat, (r13 0 2) = some u16 ∧ (Cm (d + 11) 55 [.ref 88, .ref u16] r13 g14 j15 (rkV (fun r17 g18 j19 => (∃ u20 : Nat, (r17 0 2) = some u20 ∧ (OB u20 4 (Cm (d + 11) 122 [.ref 0, .int (g18 u20 7)] r17 g18 j19 (rkI (fun y24 r21 g22 j23 => (Cm (d + 12) 165 [.ref 263, .int (nI m)] r21 g22 j23 (rkI fun v' r2 g2 j2 => y24 = v' ∧ J (n + 1) r2 g2))))))))))))))))) := by
      intro e' F' g3 j3 hl hT3 f3
      have ok := txt_ok (n := m) _ _ _ _ FI_0 (Nat.zero_le _) hl
      have hB := ok.1.2.2.2.1
      have rb := hB.1
      have rr : (uR (uR (uR r 58 2 (some p')) 0 2 (some p')) 0 3 (some p)) 0 2 = some p' := by rw [uR_n (by decide), uR_s]
      obtain ⟨R3, c3, hx, ν, hM3⟩ := hT3
      have q3 : ∀ a k, p' ≤ a → a < p' + 28 → (uI (uI g3 0 6 (g3 58 16)) 0 5 (nI 1)) a k = g3 a k := fun a k z1 z2 => by rw [uI_o (by omega), uI_o (by omega)]
      have x4 := hx.eq ⟨by omega, by omega⟩ q3
      refine X_begin (d := d + 10) hp' hB x4 fun g5 y5 o5 => ⟨p', rr, ?_⟩
      have q5 : ∀ a k, p' ≤ a → a < p' + 28 → (uI (uI g5 0 10 (nI 0)) 0 12 (nI 0)) a k = (uI (uI g3 0 6 (g3 58 16)) 0 5 (nI 1)) a k := fun a k z1 z2 => by rw [uI_o (by omega), uI_o (by omega), o5 a k (by omega)]
      have x5 := x4.eq ⟨by omega, by omega⟩ q5
      refine X_measure (d := d + 10) hp' hB x5 fun g6 m6 o6 => ⟨p', rr, ?_⟩
      have x6 := x5.eq (g' := g6) ⟨by omega, by omega⟩ (fun a k z1 z2 => o6 a k (by omega))
      refine X_settle (d := d + 9) hp' x6 fun g7 l7 r7 o7 => ⟨p', rr, OB_i (SH_p hp') (vX9_answered_0 ?_)⟩
      have x7 := x6.eq (g' := g7) ⟨by omega, by omega⟩ (fun a k z1 z2 => o7 a k (by omega))
      have v7 : g7 p' 7 = nI (F' 5) := x7.1.2.2.2.2.2.1
      show Cm (d + 12) 165 [.ref 263, .int (nI m)] _ (uI g7 0 7 (nI 0)) j3 (rkI fun v' r2 g2 j2 => g7 p' 7 = v' ∧ J (n + 1) r2 g2)
      rw [v7]
      have big : ∀ a k, a ≠ 0 → ¬ (58 ≤ a ∧ a < 71) → ¬ (83 ≤ a ∧ a ≤ 91) → ¬ (p' ≤ a ∧ a < p' + 28) → (uI g7 0 7 (nI 0)) a k = g a k := fun a k z0 z1 z2 z3 => by
        rw [uI_o z0, o7 a k (by omega), o6 a k (by omega), uI_o z0, uI_o z0, o5 a k (by omega), uI_o z0, uI_o z0, f3.1 a k (by omega), uI_o z0]
      have z0 : ∀ k, k ≠ 7 → k ≠ 10 → k ≠ 12 → k ≠ 5 → k ≠ 6 → (uI g7 0 7 (nI 0)) 0 k = (uI g 0 1 (nI 0)) 0 k := fun k y1 y2 y3 y4 y5 => by
        rw [uI_n y1, o7 0 k (by omega), o6 0 k (by omega), uI_n y3, uI_n y2, o5 0 k (by omega), uI_n y4, uI_n y5, f3.1 0 k (by omega)]
      have h05 : (uI g7 0 7 (nI 0)) 0 5 = nI 1 := by rw [uI_n (by decide), o7 0 5 (by omega), o6 0 5 (by omega), uI_n (by decide), uI_n (by decide), o5 0 5 (by omega), uI_s]
      have h06 : (uI g7 0 7 (nI 0)) 0 6 = nI 0 := by rw [uI_n (by decide), o7 0 6 (by omega), o6 0 6 (by omega), uI_n (by decide), uI_n (by decide), o5 0 6 (by omega), uI_n (by decide), uI_s]; exact c3.2
      have h10 : (uI g7 0 7 (nI 0)) 0 10 = nI 0 := by rw [uI_n (by decide), o7 0 10 (by omega), o6 0 10 (by omega), uI_n (by decide), uI_s]
      have h12 : (uI g7 0 7 (nI 0)) 0 12 = nI 0 := by rw [uI_n (by decide), o7 0 12 (by omega), o6 0 12 (by omega), uI_s]
      have hXS : XS p' p 1 0 0 0 F' (bgY F' (F' 5)) σ KY IY τ (uR (uR (uR r 58 2 (some p')) 0 2 (some p')) 0 3 (some p)) (uI g7 0 7 (nI 0)) := by
        refine ⟨rr, ⟨uR_s, by rcases app with h | h <;> omega⟩, x7.eq ⟨by omega, by omega⟩ (fun a k z1 z2 => by rw [uI_o (by omega)]), y5.eq (fun a k z1 z2 => by rw [uI_o (by omega), o7 a k (by omega), o6 a k (by omega), uI_o (by omega), uI_o (by omega)]), h05, fun _ => ⟨fun a c ha hc => ?_, ?_, fun i v hv => ?_⟩, ⟨fun i hi => ?_, k2, h10, fun i hi => by omega⟩, ⟨h12, fun i hi => by omega⟩, ?_, fun i hi => by omega⟩
        · rw [uI_o (by omega), o7 _ c (by omega)]; exact m6 a c ha hc
        · rw [uI_o (by decide)]; exact l7
        · rw [uI_o (by decide)]; exact r7 i v hv
        · rw [uR_o (by decide), uR_o (by decide), uR_o (by decide)]; exact k1 i hi
        · rw [z0 1 (by decide) (by decide) (by decide) (by decide) (by decide), uI_s]
      refine M_port (T := T) (τ := τ) (by omega) hT (by rw [big 263 2 (by decide) (by omega) (by omega) (by omega)]; exact e2) (fun i hi => ⟨hτ i (by omega), by rw [big 264 i (by decide) (by omega) (by omega) (by omega)]; exact t5 i (by omega)⟩) (fun e2 F2 hl2 g9 r9 w9 c9 o9 => ?_) (fun num pl hl2 => by rw [hl] at hl2; cases hl2)
      have : F2 = F' := by
        rw [hl] at hl2
        simp only [Sum.inr.injEq, Prod.mk.injEq] at hl2
        exact hl2.2.symm
      subst this
      refine ⟨rfl, J_mk (hXS.mo ⟨by omega, by omega⟩ (by omega) (by omega) o9) ⟨r9, w9, c9.1, ⟨c9.2.1, fun i hi => by omega⟩, ⟨c9.2.2.1, fun i hi => by omega⟩, c9.2.2.2.1, fun i hi => by omega⟩ ⟨Or.inr rfl, ⟨fun z => by omega, fun _ => ⟨(ok.1.2.1 rfl).1, ok.2.1, ok.2.2⟩, hB⟩, bgY_yo hB, ⟨by omega, fun _ => rfl⟩, fun i hi => by omega, ⟨by omega, fun _ => rfl⟩, fun i hi => by omega, ⟨by omega, fun i hi => by omega⟩, hn, fun z => by omega⟩ ⟨?_, ?_, fun z => ?_⟩⟩
      · rw [o9 0 6 (by decide), h06, c9.2.2.2.2.1]
      · rw [o9 0 7 (by decide), uI_s, c9.2.2.2.2.2]
      · rw [o9 0 7 (by decide), uI_s] at z; exact absurd z (by decide +kernel)
    have bad : ∀ num pl g3 j3, txt m τ (m + 1) 0 0 (fun _ => 0) = .inl (num, pl) → g3 58 16 = nI num → g3 58 17 = nI pl → LnF p' (uI g 0 1 (nI 0)) g3 j j3 → Cm (d + 12) 165 [.ref 263, .int (nI m)] (uR r 58 2 (some p')) (uI (uI g3 0 6 (g3 58 16)) 0 7 (nI 4)) j3 (rkI fun v' r2 g2 j2 => (-1 : Int32) = v' ∧ J (n + 1) r2 g2) := by
      intro num pl g3 j3 hl c16 c17 f3
      rw [c16]
      have big : ∀ a k, ¬ (58 ≤ a ∧ a ≤ 61) → ¬ (p' ≤ a ∧ a < p' + 28) → ¬ (a = 0 ∧ (k = 1 ∨ k = 6 ∨ k = 7)) → (uI (uI g3 0 6 (nI num)) 0 7 (nI 4)) a k = g a k := fun a k z1 z2 z3 => by
        rw [uI_d (by omega), uI_d (by omega), f3.1 a k (by omega), uI_d (by omega)]
      have hXS : XS p p' b kc ic 0 R Y σ KY IY τ (uR r 58 2 (some p')) (uI (uI g3 0 6 (nI num)) 0 7 (nI 4)) := by
        refine ⟨by rw [uR_o (by decide)]; exact a1, ⟨by rw [uR_o (by decide)]; exact a2, app⟩, a3.eq hb (fun a k z1 z2 => big a k (by omega) (by rcases app with h | h <;> omega) (by omega)), a4.eq (fun a k z1 z2 => big a k (by omega) (by omega) (by omega)), by rw [big 0 5 (by omega) (by omega) (by omega)]; exact a5, fun hb1 => ⟨fun a c ha hc => ?_, ?_, fun i v hv => ?_⟩, ⟨fun i hi => ?_, k2, ?_, fun i hi => (k7 i hi).eq fun a k z1 z2 => big a k ?_ ?_ ?_⟩, ⟨?_, fun i hi => (i7 i hi).eq fun a k z1 z2 => big a k (by omega) (by omega) (by omega)⟩, ?_, fun i hi => by omega⟩
        · rw [big _ c (by omega) (by omega) (by omega)]; exact (a6 hb1).1 a c ha hc
        · rw [big 88 1 (by omega) (by omega) (by omega)]; exact (a6 hb1).2.1
        · rw [big 89 i (by omega) (by omega) (by omega)]; exact (a6 hb1).2.2 i v hv
        · rw [uR_o (by decide)]; exact k1 i hi
        · rw [big 0 10 (by omega) (by omega) (by omega)]; exact k5
        · omega
        · omega
        · omega
        · rw [big 0 12 (by omega) (by omega) (by omega)]; exact i5
        · rw [uI_n (by decide), uI_n (by decide), f3.1 0 1 (by omega), uI_s]
      refine M_port (T := T) (τ := τ) (by omega) hT (by rw [big 263 2 (by omega) (by omega) (by omega)]; exact e2) (fun i hi => ⟨hτ i (by omega), by rw [big 264 i (by omega) (by omega) (by omega)]; exact t5 i (by omega)⟩) (fun e2 F2 hl2 => by rw [hl] at hl2; cases hl2) (fun num2 pl2 hl2 g9 c9 o9 => ?_)
      have : num2 = num ∧ pl2 = pl := by
        rw [hl] at hl2
        simp only [Sum.inl.injEq, Prod.mk.injEq] at hl2
        exact ⟨hl2.1.symm, hl2.2.symm⟩
      obtain ⟨rfl, rfl⟩ := this
      obtain ⟨p1, p2, p3, p4, p5, p6, p7, p8, p10, p11⟩ := hP.up hn
      obtain ⟨m1, m2, m3, ⟨m4, m5⟩, ⟨m6, m7⟩, m8, m9⟩ := hM
      have o10 : ∀ a k, 263 ≤ a → ¬ (a = 265 ∨ a = 267 ∨ (a = 263 ∧ k ≤ 13)) → g9 a k = g a k := fun a k z1 z2 => by rw [o9 a k z2, big a k (by omega) (by omega) (by omega)]
      refine ⟨rfl, J_mk (hXS.mo hb hk16 hi3 (fun a k ha => o9 a k (by omega))) ⟨fun k hk => by rw [o10 266 k (by decide) (by omega)]; exact m1 k hk, fun k hk => by rw [o10 268 k (by decide) (by omega)]; exact m2 k hk, by rw [o10 263 14 (by decide) (by omega)]; exact m3, ⟨by rw [o10 263 20 (by decide) (by omega)]; exact m4, fun i hi k hk => by rw [o10 269 _ (by decide) (by omega)]; exact m5 i hi k hk⟩, ⟨by rw [o10 263 21 (by decide) (by omega)]; exact m6, fun i hi k hk => by rw [o10 270 _ (by decide) (by omega)]; exact m7 i hi k hk⟩, c9.2.2.2, fun i hi => by omega⟩ ⟨p1, p2, p3, p4, p5, p6, p7, ⟨by omega, fun i hi => by omega⟩, p10, p11⟩ ⟨?_, ?_, fun z => ?_⟩⟩
      · rw [o9 0 6 (by omega), uI_n (by decide), uI_s, c9.1]
      · rw [o9 0 7 (by omega), uI_s, c9.2.2.1]
      · rw [o9 58 17 (by omega), uI_o (by decide), uI_o (by decide), c17, c9.2.1]
    have xle : nI m ≤ g 0 1 := by rw [e1]; exact nI_le (by omega) (by omega)
    refine vX9_port_0 ⟨fun y => absurd y (nlt_0 (by omega)), fun _ => ⟨fun _ => ⟨p', a2, X_read (d := d + 2) hp' (by omega) htx ⟨fun e' F' g3 j3 hl hT3 f3 => ⟨fun y => absurd y n10, fun _ => ⟨p, by rw [uR_o (by decide)]; exact a1, p', by rw [uR_o (by decide)]; exact a2, rfl, rfl, bo1, p', rfl, good e' F' g3 j3 hl hT3 f3⟩⟩, fun num pl g3 j3 hl c16 c17 f3 => ⟨fun _ => vX9_refused_0 (bad num pl g3 j3 hl c16 c17 f3), fun y => absurd n00 y⟩⟩⟩, fun y => absurd xle y⟩⟩
  · have fin : G (d + 12) 74 12 [(0, .ref 0)] [] r g j (rkI fun v r1 g1 j1 => Cm (d + 12) 165 [.ref 263, .int x1] r1 g1 j1 (rkI fun v' r2 g2 j2 => v = v' ∧ J (n + 1) r2 g2)) := by
      refine vX9_port_12 (vX9_refused_0 ?_)
      show Cm (d + 12) 165 [.ref 263, .int x1] r (uI g 0 7 (nI 2)) j (rkI fun v' r2 g2 j2 => (-1 : Int32) = v' ∧ J (n + 1) r2 g2)
      refine vX10_port_0 (vX10_good_0 ?_)
      show Cm (d + 11) 144 [.int x1, .int (nI 0), .int ((uI (uI (uI g 0 7 (nI 2)) 263 0 (nI 0)) 263 11 (nI 0)) 263 2)] r (uI (uI (uI g 0 7 (nI 2)) 263 0 (nI 0)) 263 11 (nI 0)) j (rkI _)
      have w2 : (uI (uI (uI g 0 7 (nI 2)) 263 0 (nI 0)) 263 11 (nI 0)) 263 2 = nI (T + 1) - nI 1 := by
        rw [uI_n (by decide), uI_n (by decide), uI_o (by decide), e2, pk_sub (by omega), Nat.add_sub_cancel]
      rw [w2]
      refine sM_in (by omega) (fun k hk e => absurd e (ho k hk)) (fun _ => ⟨fun _ => vX10_no_0 ⟨rfl, ?_⟩, fun y => absurd n00 y⟩)
      refine J_ag hn hJ ((((Ag.rf.u rfl).u rfl).u rfl).u rfl) ?_ ?_
      · rw [uI_o (by decide), uI_o (by decide), uI_o (by decide), uI_s, uI_s]
      · rw [uI_o (by decide), uI_o (by decide), uI_o (by decide), uI_s]; decide +kernel
    refine vX9_port_0 ⟨fun _ => fin, fun y => ⟨fun y2 => ?_, fun _ => fin⟩⟩
    have h2 := out_c (by omega) ho y
    exfalso
    rw [e1] at y2
    rw [Int32.le_iff_toInt_le, nI_toInt (by omega)] at h2 y2
    omega
end
