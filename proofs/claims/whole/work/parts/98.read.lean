/-! THE TEXT: the class's read; the reference's reading -/
theorem FI_0 : FI 0 (fun _ => 0) := by
  refine ⟨fun _ _ => rfl, fun z => by omega, Or.inl rfl, ⟨by decide, fun s hs => absurd hs (Nat.not_lt_zero _), fun c hc => absurd hc (Nat.not_lt_zero _), fun c c' hc => absurd hc (Nat.not_lt_zero _), fun s => Nat.zero_le _, fun t ht => absurd ht (Nat.not_lt_zero _), fun a b _ _ => ⟨Nat.zero_le _, rfl, fun _ => rfl⟩, fun c _ => ⟨Nat.zero_le _, fun _ => rfl⟩⟩, ⟨fun s _ => ⟨Nat.zero_le _, fun i hi => absurd hi (Nat.not_lt_zero _)⟩, fun s s' _ _ h => absurd h (Nat.lt_irrefl _)⟩, fun s _ => ⟨fun h => absurd h (Nat.lt_irrefl _), fun h => absurd h (by rintro (⟨_, h⟩ | ⟨_, _, h⟩ | ⟨_, h⟩) <;> exact Nat.not_lt_zero _ h)⟩, fun s _ => ⟨Nat.zero_le _, fun i _ => show 0 < 256 by decide⟩⟩
section
variable {d n q : Nat} {τ : Nat → Nat} {r : Rr} {g g' g0 : Gi} {j j' j0 : Gl}
theorem X_loop {K : Int32 → Rr → Gi → Gl → Prop} (hp : q = 2 ∨ q = 30) (hq : r 58 2 = some q) : ∀ f i e b F g j, n < e + f → i ≤ e → XLn n τ e q b F g j → FI b F → LnF q g0 g j0 j → XE n τ q (txt n τ f e b F) g0 j0 (fun y g' j' => K y r g' j') → Cm (d + 8) 40 [.ref 58] r g j (rkI (fun y7 r4 g5 j6 => (y7 = 0 → (((nI 0) = 0 ∨ (nI 0) = 1) ∧ rkI K (some (.int (nI 0))) r4 g5 j6)) ∧ (¬ y7 = 0 → G (d + 9) 28 70 [(0, .ref 58), (3, .int (nI i))] [] r4 g5 j6 (rkI K)))) := by
  intro f
  induction f with
  | zero => intro i e b F g j h _ hS; have := hS.1.2.1; omega
  | succ f ih =>
    intro i e b F g j hn hie hS hI hF hE
    refine X_line hp hq hS hI ⟨fun e' F' g' j' hl hT f' => ⟨fun y => absurd y n10, fun _ => ?_⟩, fun num pl g' j' hl a c f' => ⟨fun _ => ⟨bo0, hE.b hl _ _ a c (hF.tr f')⟩, fun y => absurd n00 y⟩⟩
    have E1 := hE.i hl
    have E1 : XE n τ q (if tK n τ e' = 3 then txt n τ f (tZ n τ e') 1 F' else if tK n τ e' = 0 then (if 0 < F' 4 ∧ 0 < F' 6 then .inr (e', F') else .inl (6, tA n τ e')) else .inl (1, tA n τ e')) g0 j0 _ := E1
    have mo := lineL_m hS.1.2.1 hl
    have ok := lineL_ok hS.1.2.1 hI hl
    have k4 := tK4 (n := n) (τ := τ) (e := e')
    have rb := ok.1.2.2.2.1.1
    have F2 := hF.tr f'
    obtain ⟨R', t3, hx, ν, hM⟩ := hT
    have n1000 := R'.1.1
    have ta := tA_b (τ := τ) ok.2
    have e105 : tK n τ e' ≠ 3 → G (d + 9) 28 105 [(0, .ref 58)] [] r g' j' (rkI K) := by
      intro c3
      rw [if_neg c3] at E1
      have g40 : g' 58 4 = 0 ↔ tK n τ e' = 0 := by
        rw [R'.2.2.2.1, ← nI_eq (a := tK n τ e') (b := 0) (by omega) (by omega), n00]
      refine vX5_read_105 ⟨fun y => ?_, fun y => ?_⟩
      · have c0 := g40.mp y
        rw [if_pos c0] at E1
        have e138 : ¬ (0 < F' 4 ∧ 0 < F' 6) → G (d + 9) 28 138 [(0, .ref 58)] [] r g' j' (rkI K) := by
          intro c
          rw [if_neg c] at E1
          exact vX5_read_138 (X_wrong R' fun g2 a b f => ⟨fun _ => ⟨bo0, E1.2 _ _ _ _ rfl a b (F2.tr (LnF.of (Sm.rf.wf f) HQ.rf))⟩, fun y => absurd n00 y⟩)
        have x5 : g' q 5 = nI (F' 4) := hx.1.2.2.2.2.1
        have x9 : g' q 9 = nI (F' 6) := hx.1.2.2.2.2.2.2.1
        refine ⟨q, hq, OB_i (SH_p hp) ⟨fun y5 => e138 ?_, fun y5 => ⟨q, hq, OB_i (SH_p hp) ⟨fun y9 => ?_, fun y9 => e138 ?_⟩⟩⟩⟩
        · rw [x5] at y5
          have := le_n (a := F' 4) (b := 0) (by omega) (by omega) (by rw [n00]; exact y5); omega
        · have z4 : F' 4 ≠ 0 := fun z => y5 (by rw [x5, z, n00]; exact Int32.le_refl _)
          rw [x9] at y9
          have := lt_n (a := 0) (b := F' 6) (by omega) (by omega) (by rw [n00]; exact y9)
          rw [if_pos (by omega)] at E1
          exact ⟨bo1, E1.1 _ _ _ _ rfl ⟨R', t3, hx, ν, hM⟩ F2⟩
        · intro z
          refine y9 ?_
          rw [x9, ← n00]
          exact (nI_ltI (by omega) (by omega)).mpr z.2
      · rw [if_neg (fun z => y (g40.mpr z))] at E1
        exact X_wrong R' fun g2 a b f => ⟨bo0, E1.2 _ _ _ _ rfl a b (F2.tr (LnF.of (Sm.rf.wf f) HQ.rf))⟩
    refine vX5_read_70 ?_
    rw [R'.1.2.2, nI_leI (by omega) (by omega), R'.2.2.2.1, nI_eq (by omega) (by omega)]
    refine ⟨fun y => e105 (fun c => ?_), fun y => ⟨fun c3 => ?_, fun c3 => e105 c3⟩⟩
    · have := tK3 ok.2 c; omega
    · rw [if_pos c3] at E1
      have t := tK3 ok.2 c3
      refine X_next R' (by rw [c3]; decide) fun g2 j2 R2 _ f2 => ?_
      rw [nI_add]
      have fw := f2.wf
      refine ih (i + 1) (tZ n τ e') 1 F' g2 j2 (by omega) (by omega) ⟨R2, ⟨by rw [f2.1 58 3 (by omega)]; exact t3.1, by rw [f2.1 58 16 (by omega)]; exact t3.2⟩, fun _ => hx.eq ⟨by omega, by omega⟩ (fun a k z1 z2 => fw.1 a k (by omega)), fun z => by omega, ν, hM.wf fw⟩ ok.1 (F2.tr (LnF.of (Sm.rf.wf fw) HQ.rf)) E1
theorem X_empty {K : Rr → Gi → Gl → Prop} (hp : q = 2 ∨ q = 30) (h : ∀ g', (g' q 5 = nI 0 ∧ g' q 7 = nI 0 ∧ g' q 9 = nI 0 ∧ g' q 11 = nI 0) → (∀ a b, a < 5 → b < 5 → g' (q + 5 + a) b = nI 0) → (∀ a k, ¬ (q ≤ a ∧ a < q + 28) → g' a k = g a k) → K r g' j) : Cm d 24 [.ref q] r g j (rkV K) := by
  have loop : ∀ w x, x + w = 5 → ∀ gg, (gg q 5 = nI 0 ∧ gg q 7 = nI 0 ∧ gg q 9 = nI 0 ∧ gg q 11 = nI 0) → (∀ a b, a < x → b < 5 → gg (q + 5 + a) b = nI 0) → (∀ a k, ¬ (q ≤ a ∧ a < q + 28) → gg a k = g a k) → G d 24 22 [(0, .ref q), (1, .int (nI x))] [] r gg j (rkV K) := by
    intro w
    induction w with
    | zero =>
      intro x hx gg z zr zo
      have : x = 5 := hx
      subst this
      exact vX4_empty_22 ⟨fun _ => h gg z zr zo, fun y => absurd (Int32.le_refl _) y⟩
    | succ w ih =>
      intro x hx gg z zr zo
      have inner : ∀ u y, y + u = 5 → ∀ gg, (gg q 5 = nI 0 ∧ gg q 7 = nI 0 ∧ gg q 9 = nI 0 ∧ gg q 11 = nI 0) → (∀ a b, a < x → b < 5 → gg (q + 5 + a) b = nI 0) → (∀ b, b < y → gg (q + 5 + x) b = nI 0) → (∀ a k, ¬ (q ≤ a ∧ a < q + 28) → gg a k = g a k) → G d 24 29 [(0, .ref q), (1, .int (nI x)), (2, .int (nI y))] [] r gg j (rkV K) := by
        intro u
        induction u with
        | zero =>
          intro y hy gg z zr zy zo
          have : y = 5 := hy
          subst this
          refine vX4_empty_29 ⟨fun _ => ?_, fun y => absurd (Int32.le_refl _) y⟩
          rw [nI_add]
          refine ih (x + 1) (by omega) gg z (fun a b ha hb => ?_) zo
          by_cases c : a = x
          · subst c; exact zy b hb
          · exact zr a b (by omega) hb
        | succ u ih2 =>
          intro y hy gg z zr zy zo
          refine vX4_empty_29 ⟨fun y' => by rw [nI_leI (by omega) (by omega)] at y'; omega, fun _ => road_i hp rfl rfl (by omega) (by omega) ?_⟩
          rw [nI_add]
          refine ih2 (y + 1) (by omega) _ ⟨by rw [uI_o (by omega)]; exact z.1, by rw [uI_o (by omega)]; exact z.2.1, by rw [uI_o (by omega)]; exact z.2.2.1, by rw [uI_o (by omega)]; exact z.2.2.2⟩ (fun a b ha hb => by rw [uI_o (by omega)]; exact zr a b ha hb) (fun b hb => ?_) (fun a k y' => by rw [uI_o (by omega)]; exact zo a k y')
          by_cases c : b = y
          · subst c; exact uI_s
          · rw [uI_n c]; exact zy b (by omega)
      exact vX4_empty_22 ⟨fun y' => by rw [nI_leI (by omega) (by omega)] at y'; omega, fun _ => inner 5 0 (by omega) gg z zr (fun b hb => by omega) zo⟩
  refine vX4_empty_0 (OB_i (SH_p hp) (OB_i (SH_p hp) (OB_i (SH_p hp) (OB_i (SH_p hp) (loop 5 0 (by omega) _ ⟨?_, ?_, ?_, ?_⟩ (fun a b ha => by omega) (fun a k z => ?_))))))
  · rw [uI_n (by decide), uI_n (by decide), uI_n (by decide), uI_s]
  · rw [uI_n (by decide), uI_n (by decide), uI_s]
  · rw [uI_n (by decide), uI_s]
  · rw [uI_s]
  · rw [uI_o (by omega), uI_o (by omega), uI_o (by omega), uI_o (by omega)]
theorem X_read {K : Int32 → Rr → Gi → Gl → Prop} (hp : q = 2 ∨ q = 30) (hn : n ≤ 1000) (ht : ∀ i, i < n → τ i < 256 ∧ g 1 i = sb (τ i)) (hE : XE n τ q (txt n τ (n + 1) 0 0 (fun _ => 0)) g j (fun y g' j' => K y (uR r 58 2 (some q)) g' j')) : Cm (d + 9) 28 [.ref 58, .ref q, .int (nI n)] r g j (rkI K) := by
  refine vX5_read_0 ⟨rfl, q, rfl, OB_i (SH_p hp) ?_⟩
  have hm : (if nI 1000 < nI n then nI 1000 else nI n) = nI n := by rw [if_neg (fun z => by have := lt_n (by omega) (by omega) z; omega)]
  rw [hm]
  refine X_empty hp fun g1 z1 z2 z3 => ⟨bo0, ?_⟩
  have w : ∀ a k, a ≠ 58 → (uI (uI (uI (uI (uI (uI g1 58 3 (nI 0)) 58 15 (nI 0)) 58 16 (nI 0)) 58 17 (nI 0)) 58 5 (nI 0)) 58 6 (nI 0)) a k = g1 a k := fun a k z => by rw [uI_o z, uI_o z, uI_o z, uI_o z, uI_o z, uI_o z]
  have hT : TpR n τ (uI (uI (uI (uI (uI (uI g1 58 3 (nI 0)) 58 15 (nI 0)) 58 16 (nI 0)) 58 17 (nI 0)) 58 5 (nI 0)) 58 6 (nI 0)) := by
    refine ⟨hn, fun i hi => ?_, ?_⟩
    · rw [w 1 i (by decide), z3 1 i (by omega), uI_o (by decide)]; exact ht i hi
    · rw [uI_n (by decide), uI_n (by decide), uI_n (by decide), uI_n (by decide), uI_n (by decide), uI_n (by decide), z3 58 1 (by omega), uI_s]
  refine Rd_step hT (Nat.zero_le _) uI_s fun g2 j2 R2 _ f2 => ?_
  refine X_loop (g0 := g) (j0 := j) hp (uR_s) (n + 1) 0 0 0 (fun _ => 0) g2 j2 (by omega) (Nat.le_refl _) ⟨R2, ⟨?_, ?_⟩, fun z => by omega, fun _ => ⟨⟨?_, ?_, ?_, ?_⟩, fun a b ha hb => ?_⟩, fun _ => 0, ⟨?_, show 0 ≤ 23 by decide, fun i hi => absurd hi (Nat.not_lt_zero i), fun s _ h => absurd h (Nat.lt_irrefl _)⟩⟩ FI_0 ⟨fun a k z => ?_, fun a k z => f2.2 a k (by omega)⟩ hE
  · rw [f2.1 58 3 (by omega), uI_n (by decide), uI_n (by decide), uI_n (by decide), uI_n (by decide), uI_n (by decide), uI_s]
  · rw [f2.1 58 16 (by omega), uI_n (by decide), uI_n (by decide), uI_n (by decide), uI_s]
  · rw [f2.1 q 5 (by omega), w q 5 (by omega)]; exact z1.1
  · rw [f2.1 q 7 (by omega), w q 7 (by omega)]; exact z1.2.1
  · rw [f2.1 q 9 (by omega), w q 9 (by omega)]; exact z1.2.2.1
  · rw [f2.1 q 11 (by omega), w q 11 (by omega)]; exact z1.2.2.2
  · rw [f2.1 _ b (by omega), w _ b (by omega)]; exact z2 a b ha hb
  · rw [f2.1 58 15 (by omega), uI_n (by decide), uI_n (by decide), uI_n (by decide), uI_n (by decide), uI_s]; rfl
  · rw [f2.1 a k (by omega), w a k (by omega), z3 a k (by omega), uI_o (by omega)]
/-- the reference reads -/
theorem M_text {Q : QT} (hn : n ≤ 1000) (ht : ∀ i, i < n → τ i < 256 ∧ g 264 i = nI (τ i)) (hf : g 263 13 = nI 0) (hM : ∀ g', (∀ a k, ¬ (a = 267 ∨ (a = 263 ∧ (k = 3 ∨ k = 5))) → g' a k = g a k) → g' 263 3 = nI n → ME n τ (txt n τ (n + 1) 0 0 (fun _ => 0)) g' (fun g' => G (d + 11) 165 173 [(0, .ref 263)] [] r g' j Q)) : G (d + 11) 165 39 [(0, .ref 263), (1, .int (nI n)), (2, .int (nI 0))] [] r g j Q := by
  have loop : ∀ w i, i + w = 348 → ∀ gg, (∀ a k, a ≠ 267 → gg a k = g a k) → (∀ k, k < i → gg 267 k = nI 0) → G (d + 11) 165 39 [(0, .ref 263), (1, .int (nI n)), (2, .int (nI i))] [] r gg j Q := by
    intro w
    induction w with
    | zero =>
      intro i hi gg ho hz
      have : i = 348 := hi
      subst this
      refine vX10_port_39 ⟨fun _ => ?_, fun y => absurd (Int32.le_refl _) y⟩
      have o2 : ∀ a k, ¬ (a = 267 ∨ (a = 263 ∧ (k = 3 ∨ k = 5))) → (uI (uI gg 263 3 (nI n)) 263 5 (nI 0)) a k = g a k := fun a k z => by rw [uI_d (by omega), uI_d (by omega)]; exact ho a k (by omega)
      have e3 : (uI (uI gg 263 3 (nI n)) 263 5 (nI 0)) 263 3 = nI n := by rw [uI_n (by decide), uI_s]
      have E := hM _ o2 e3
      refine M_pass (n := n) (τ := τ) (e := 0) ⟨hn, fun i hi => ?_, e3⟩ (Nat.zero_le _) uI_s fun g1 R1 f1 => ?_
      · rw [o2 264 i (by omega)]; exact ht i hi
      · exact M_loop (n + 1) 0 0 (fun _ => 0) g1 (by omega) R1 (by rw [f1 263 13 (by omega), o2 263 13 (by omega)]; exact hf) (fun k hk => by rw [f1 267 k (by omega), uI_o (by decide), uI_o (by decide)]; exact hz k hk) FI_0 f1.mh E
    | succ w ih =>
      intro i hi gg ho hz
      refine vX10_port_39 ⟨fun y => by rw [nI_leI (by omega) (by omega)] at y; omega, fun _ => IX_l (by omega) ?_⟩
      rw [nI_add]
      refine ih (i + 1) (by omega) _ (fun a k z => by rw [uI_o z]; exact ho a k z) (fun k hk => ?_)
      by_cases c : k = i
      · subst c; exact uI_s
      · rw [uI_n c]; exact hz k (by omega)
  exact loop 348 0 (by omega) g (fun _ _ _ => rfl) (fun k hk => by omega)
end
