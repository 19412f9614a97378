/-! ACTS: lift -/
section
variable {n p b d : Nat} {R Y Y' Z : Nat → Nat} {r : Rr} {g g' : Gi} {j : Gl} {K : Int32 → Rr → Gi → Gl → Prop}
theorem W_ofC (hr : ∀ k, k < 348 → g 266 k = nI (R k)) {c w : Nat} (hc : c < 15) (hw : w < 5) (h : K (nI (R (21 + 5 * c + w))) r g j) : Cm d 179 [.ref 263, .int (nI c), .int (nI w)] r g j (rkI K) := by
  refine vX10_ofCrate_0 (IX_e (q := 21 + 5 * c + w) (by rw [pk_mul, nI_add, nI_add]) (by omega) ?_)
  show K (g 266 (21 + 5 * c + w)) r g j
  rw [hr _ (by omega)]; exact h
theorem M_l201 {s t c : Nat} (hZ : Ms g Z) (hs : s < 3) (ht : t ≤ 3) (hc : c < 15) (h30 : Z (30 + c) ≤ 1) (hq : t = 3 → Z (30 + c) = 0 → Z 144 ≤ 14) (hh : t < 3 → Z (120 + (3 * s + t)) ≤ 4)
    (h : ∀ g', (∀ a k, a ≠ 268 → g' a k = g a k) → (t < 3 → Ms g' (plY (upN Z c 5) (3 * s + t) c)) → (t = 3 → Z (30 + c) = 1 → Ms g' (upN Z c 5)) → (t = 3 → Z (30 + c) = 0 → Ms g' (lnY (upN Z c 5) c)) → K (nI c) r g' j) : G (d + 1) 244 201 [(0, .ref 263), (1, .int (nI s)), (3, .int (nI t)), (5, .int (nI c))] [] r g j (rkI K) := by
  refine vX10_lift_201 ⟨fun a => IX_e (q := 30 + c) (nI_add 30 c) (by omega) ⟨fun e => ?_, fun e => ?_⟩, fun a => ?_⟩
  · have a := le_n (by decide) (by omega) a
    rw [hZ _ (by omega), nI_eq (by omega) (by decide)] at e
    refine IX_e (q := c) (by rw [nI_add]; congr 1; omega) (by omega) (h _ (fun a k ha => by rw [uI_o ha]) (fun e => by omega) (fun _ _ => hZ.u _ _) (fun _ e => by omega))
  · have a := le_n (by decide) (by omega) a
    rw [hZ _ (by omega), nI_eq (by omega) (by decide)] at e
    have hq := hq (by omega) (by omega)
    have h144 := hZ 144 (by decide)
    have e144 : uI g 268 (129 + Z 144) (nI c) 268 144 = nI (Z 144) := by rw [uI_n (by omega)]; exact h144
    refine IX_l (by decide) (IX_e (q := 129 + Z 144) (by rw [h144, nI_add]) (by omega) (IX_l (by decide) (IX_l (by decide) (IX_e (q := c) (by rw [nI_add]; congr 1; omega) (by omega) (h _ (fun a k ha => ?_) (fun e => by omega) (fun _ e => by omega) (fun _ _ => ?_))))))
    · rw [uI_o ha, uI_o ha, uI_o ha]
    · rw [e144, nI_add]
      refine Ms.eq (((hZ.u (129 + Z 144) c).u 144 (Z 144 + 1)).u c 3) (fun i => ?_)
      unfold lnY
      rw [upN_o (i := 144) (by omega)]
      unfold upN
      by_cases e1 : i = c
      · rw [if_pos e1, if_pos e1]
      · rw [if_neg e1, if_neg e1, if_neg e1]
  · have t3 : t < 3 := by
      rcases Nat.lt_or_ge t 3 with h | h
      · exact h
      · exact absurd (nI_le h (by omega)) a
    have hh := hh t3
    have ek : nI 120 + (nI 3 * nI s + nI t) = nI (120 + (3 * s + t)) := by rw [pk_mul, nI_add, nI_add]
    have h120 := hZ (120 + (3 * s + t)) (by omega)
    have e120 : uI g 268 (75 + 5 * (3 * s + t) + Z (120 + (3 * s + t))) (nI c + nI 1) 268 (120 + (3 * s + t)) = nI (Z (120 + (3 * s + t))) := by rw [uI_n (by omega)]; exact h120
    refine IX_e ek (by omega) (IX_e (q := 75 + 5 * (3 * s + t) + Z (120 + (3 * s + t))) (by rw [h120, pk_mul, nI_add, pk_mul, nI_add, nI_add]) (by omega) (IX_e ek (by omega) (IX_e ek (by omega) (IX_e (q := c) (by rw [nI_add]; congr 1; omega) (by omega) (h _ (fun a k ha => ?_) (fun _ => ?_) (fun e => by omega) (fun e => by omega))))))
    · rw [uI_o ha, uI_o ha, uI_o ha]
    · rw [e120, nI_add, nI_add]
      refine Ms.eq (((hZ.u (75 + 5 * (3 * s + t) + Z (120 + (3 * s + t))) (c + 1)).u (120 + (3 * s + t)) (Z (120 + (3 * s + t)) + 1)).u c t) (fun i => ?_)
      unfold plY
      rw [upN_o (i := 120 + (3 * s + t)) (by omega), show (3 * s + t) % 3 = t by omega]
      unfold upN
      by_cases e1 : i = c
      · rw [if_pos e1, if_pos e1]
      · rw [if_neg e1, if_neg e1, if_neg e1]
def lfY (R Y : Nat → Nat) (s f t c eff : Nat) : Nat → Nat :=
  if t < 3 then plY (tkY Y (3 * s + f) c eff (if R (21 + 5 * c) = 2 ∧ 2 ≤ Y (15 + c) + 1 then 1 else 0)) (3 * s + t) c
  else if (if R (21 + 5 * c) = 2 ∧ 2 ≤ Y (15 + c) + 1 then 1 else 0) = 1 then tkY Y (3 * s + f) c eff (if R (21 + 5 * c) = 2 ∧ 2 ≤ Y (15 + c) + 1 then 1 else 0)
  else lnY (tkY Y (3 * s + f) c eff (if R (21 + 5 * c) = 2 ∧ 2 ≤ Y (15 + c) + 1 then 1 else 0)) c
theorem lfY_all {s f t c eff brk : Nat} {P : (Nat → Nat) → Prop} (ht : t ≤ 3) (hb : brk = if R (21 + 5 * c) = 2 ∧ 2 ≤ Y (15 + c) + 1 then 1 else 0) (h1 : t < 3 → P (plY (tkY Y (3 * s + f) c eff brk) (3 * s + t) c)) (h2 : t = 3 → brk = 1 → P (tkY Y (3 * s + f) c eff brk)) (h3 : t = 3 → brk = 0 → P (lnY (tkY Y (3 * s + f) c eff brk) c)) : P (lfY R Y s f t c eff) := by
  unfold lfY
  rw [← hb]
  by_cases e : t < 3
  · rw [if_pos e]; exact h1 e
  · rw [if_neg e]
    have hb01 : brk = 0 ∨ brk = 1 := by rw [hb]; split <;> omega
    rcases hb01 with e2 | e2
    · rw [if_neg (by omega)]; exact h3 (by omega) e2
    · rw [if_pos e2]; exact h2 (by omega) e2
theorem YO.lf {s f t c eff : Nat} (h : YO n R Y) (h4 : R 4 ≤ 3) (h5 : R 5 ≤ 15) (hcnt : ∀ s, cntS R s (R 5) ≤ 5) (hS : ∀ c, c < R 5 → R (22 + 5 * c) < 3) (hs : s < R 4) (hf : f < 3) (ht : t ≤ 3) (hft : f ≠ t) (hh : 1 ≤ Y (120 + (3 * s + f))) (hc : Y (75 + 5 * (3 * s + f) + (Y (120 + (3 * s + f)) - 1)) = c + 1) (he : eff ≤ 2) : YO (n + 1) R (lfY R Y s f t c eff) := by
  have hk : 3 * s + f < 9 := by omega
  have hk1 := h.1 _ hk
  have hc1 := hk1.2.2 (Y (120 + (3 * s + f)) - 1) (by omega)
  rw [hc, Nat.add_sub_cancel] at hc1
  have yo1 : YO (n + 1) R (tkY Y (3 * s + f) c eff (if R (21 + 5 * c) = 2 ∧ 2 ≤ Y (15 + c) + 1 then 1 else 0)) := h.tk h5 hS hk hh hc he
  generalize hbrk : (if R (21 + 5 * c) = 2 ∧ 2 ≤ Y (15 + c) + 1 then 1 else 0) = brk at yo1
  have tc : tkY Y (3 * s + f) c eff brk c = 5 := by unfold tkY; rw [upN_s]
  have t45 : tkY Y (3 * s + f) c eff brk (45 + c) = 0 := by rw [tkY_o (by omega) (by omega) (by omega) (by omega) (by omega) (by omega)]; exact h.2.2.2.2.2.2.2.2.2.2.2.2 c (by omega) (by omega)
  refine lfY_all (P := YO (n + 1) R) ht hbrk.symm (fun t3 => ?_) (fun _ _ => yo1) (fun _ _ => yo1.ln h5 hS (yo1.qroom h5 (by omega) tc) (by omega) tc)
  exact yo1.pl h5 hS (by omega) (yo1.room hcnt (by omega) (show c < R 5 by omega) (by omega) tc) (by omega) (by omega) tc (by omega) t45
/-- the reference's lift behind note -/
theorem M_lift {s f t c eff : Nat} (hr : ∀ k, k < 348 → g 266 k = nI (R k)) (hM : Ms g Y) (h : YO n R Y) (hn : n ≤ 512) (hR : RO b R) (hs : s < R 4) (hf : f < 3) (ht : t ≤ 3) (hft : f ≠ t) (hh : 1 ≤ Y (120 + (3 * s + f))) (hc : Y (75 + 5 * (3 * s + f) + (Y (120 + (3 * s + f)) - 1)) = c + 1) (he : eff = if R (21 + 5 * c) = 3 then 2 else 1)
    (hK : ∀ g', (∀ a k, a ≠ 268 → g' a k = g a k) → Ms g' (lfY R Y s f t c eff) → K (nI c) r g' j) :
    IX (nI 120 + (nI 3 * nI s + nI f)) 246 (fun q19 => IX (nI 120 + (nI 3 * nI s + nI f)) 246 (fun q20 => IX (nI 120 + (nI 3 * nI s + nI f)) 246 (fun q21 => IX (nI 75 + nI 5 * (nI 3 * nI s + nI f) + (uI g 268 q20 (g 268 q19 - nI 1)) 268 q21) 246 (fun q22 => IX (nI 120 + (nI 3 * nI s + nI f)) 246 (fun q23 => IX (nI 75 + nI 5 * (nI 3 * nI s + nI f) + (uI g 268 q20 (g 268 q19 - nI 1)) 268 q23) 246 (fun q24 => IX (nI 146) 246 (fun q25 => Cm d 179 [.ref 263, .int ((uI g 268 q20 (g 268 q19 - nI 1)) 268 q22 - nI 1), .int (nI 0)] r (uI (uI g 268 q20 (g 268 q19 - nI 1)) 268 q24 (nI 0)) j (rkI (fun y29 r26 g27 j28 => (y29 = nI 3 → G (d + 1) 244 149 [(0, .ref 263), (1, .int (nI s)), (3, .int (nI t)), (5, .int ((uI g 268 q20 (g 268 q19 - nI 1)) 268 q22 - nI 1))] [.int (nI 2), .int ((uI (uI g 268 q20 (g 268 q19 - nI 1)) 268 q24 (nI 0)) 268 q25), .int (nI 146), .ref 268] r26 g27 j28 (rkI K)) ∧ (¬ y29 = nI 3 → G (d + 1) 244 149 [(0, .ref 263), (1, .int (nI s)), (3, .int (nI t)), (5, .int ((uI g 268 q20 (g 268 q19 - nI 1)) 268 q22 - nI 1))] [.int (nI 1), .int ((uI (uI g 268 q20 (g 268 q19 - nI 1)) 268 q24 (nI 0)) 268 q25), .int (nI 146), .ref 268] r26 g27 j28 (rkI K)))))))))))  := by
  have h4 := hR.2.2.1.2.2.2.2.1
  have h5 := hR.2.2.1.2.2.2.2.2.1
  have hS : ∀ c, c < R 5 → R (22 + 5 * c) < 3 := fun c hc => by have := (hR.2.2.2.2.1 c hc).2.1; omega
  have hk : 3 * s + f < 9 := by omega
  have hk1 := h.1 _ hk
  have hc1 := hk1.2.2 (Y (120 + (3 * s + f)) - 1) (by omega)
  rw [hc, Nat.add_sub_cancel] at hc1
  have hro := hR.2.2.2.2.1 c (by omega)
  have hy8 := h.2.2.2.2.2.2.2.1 c (by omega)
  have h146 := h.2.2.2.2.2.2.2.2.2.2.2.1
  have ek : nI 120 + (nI 3 * nI s + nI f) = nI (120 + (3 * s + f)) := by rw [pk_mul, nI_add, nI_add]
  have e120 : g 268 (120 + (3 * s + f)) - nI 1 = nI (Y (120 + (3 * s + f)) - 1) := by rw [hM _ (by omega), pk_sub (by omega)]
  have m1 := hM.u (120 + (3 * s + f)) (Y (120 + (3 * s + f)) - 1)
  rw [← e120] at m1
  have e75 : nI 75 + nI 5 * (nI 3 * nI s + nI f) + (uI g 268 (120 + (3 * s + f)) (g 268 (120 + (3 * s + f)) - nI 1)) 268 (120 + (3 * s + f)) = nI (75 + 5 * (3 * s + f) + (Y (120 + (3 * s + f)) - 1)) := by rw [uI_s, e120, pk_mul, nI_add, pk_mul, nI_add, nI_add]
  have ec : (uI g 268 (120 + (3 * s + f)) (g 268 (120 + (3 * s + f)) - nI 1)) 268 (75 + 5 * (3 * s + f) + (Y (120 + (3 * s + f)) - 1)) - nI 1 = nI c := by
    rw [m1 _ (by omega), upN_o (by omega), hc, pk_sub (by omega)]; rfl
  refine IX_e ek (by omega) (IX_e ek (by omega) (IX_e ek (by omega) (IX_e e75 (by omega) (IX_e ek (by omega) (IX_e e75 (by omega) (IX_l (by decide) ?_))))))
  rw [ec]
  have m2 := m1.u (75 + 5 * (3 * s + f) + (Y (120 + (3 * s + f)) - 1)) 0
  have hfr2 : ∀ a k, a ≠ 268 → (uI (uI g 268 (120 + (3 * s + f)) (g 268 (120 + (3 * s + f)) - nI 1)) 268 (75 + 5 * (3 * s + f) + (Y (120 + (3 * s + f)) - 1)) (nI 0)) a k = g a k := fun a k ha => by rw [uI_o ha, uI_o ha]
  generalize uI (uI g 268 (120 + (3 * s + f)) (g 268 (120 + (3 * s + f)) - nI 1)) 268 (75 + 5 * (3 * s + f) + (Y (120 + (3 * s + f)) - 1)) (nI 0) = g2 at m2 hfr2 ⊢
  have hr2 : ∀ k, k < 348 → g2 266 k = nI (R k) := fun k hk => by rw [hfr2 266 k (by decide)]; exact hr k hk
  have e146 : g2 268 146 = nI (Y 146) := by rw [m2 _ (by decide), upN_o (by omega), upN_o (by omega)]
  refine W_ofC hr2 (by omega) (by decide) ?_
  rw [e146, Nat.add_zero]
  have go : G (d + 1) 244 149 [(0, .ref 263), (1, .int (nI s)), (3, .int (nI t)), (5, .int (nI c))] [.int (nI eff), .int (nI (Y 146)), .int (nI 146), .ref 268] r g2 j (rkI K) := by
    have m3 := m2.u 146 (Y 146 + eff)
    have e15 : uI g2 268 146 (nI (Y 146) + nI eff) 268 (15 + c) = nI (Y (15 + c)) := by rw [uI_n (by omega), m2 _ (by omega), upN_o (by omega), upN_o (by omega)]
    refine vX10_lift_149 (IX_l (by decide) (IX_e (q := 15 + c) (nI_add 15 c) (by omega) (IX_e (q := 15 + c) (nI_add 15 c) (by omega) ?_)))
    rw [e15, nI_add, nI_add]
    have m4 := m3.u (15 + c) (Y (15 + c) + 1)
    have hfr4 : ∀ a k, a ≠ 268 → (uI (uI g2 268 146 (nI (Y 146 + eff))) 268 (15 + c) (nI (Y (15 + c) + 1))) a k = g a k := fun a k ha => by rw [uI_o ha, uI_o ha]; exact hfr2 a k ha
    generalize uI (uI g2 268 146 (nI (Y 146 + eff))) 268 (15 + c) (nI (Y (15 + c) + 1)) = g4 at m4 hfr4 ⊢
    refine W_ofC (fun k hk => by rw [hfr4 266 k (by decide)]; exact hr k hk) (by omega) (by decide) ?_
    rw [Nat.add_zero]
    have yo1 : YO (n + 1) R (tkY Y (3 * s + f) c eff (if R (21 + 5 * c) = 2 ∧ 2 ≤ Y (15 + c) + 1 then 1 else 0)) := h.tk h5 hS hk hh hc (by rw [he]; split <;> omega)
    generalize hbrk : (if R (21 + 5 * c) = 2 ∧ 2 ≤ Y (15 + c) + 1 then 1 else 0) = brk at yo1
    have hb01 : brk = 0 ∨ brk = 1 := by rw [← hbrk]; split <;> omega
    have tc : tkY Y (3 * s + f) c eff brk c = 5 := by unfold tkY; rw [upN_s]
    have fin : ∀ g5, (∀ a k, a ≠ 268 → g5 a k = g a k) → Ms g5 (upN (upN (upN (upN (upN Y (120 + (3 * s + f)) (Y (120 + (3 * s + f)) - 1)) (75 + 5 * (3 * s + f) + (Y (120 + (3 * s + f)) - 1)) 0) 146 (Y 146 + eff)) (15 + c) (Y (15 + c) + 1)) (30 + c) brk) → G (d + 1) 244 201 [(0, .ref 263), (1, .int (nI s)), (3, .int (nI t)), (5, .int (nI c))] [] r g5 j (rkI K) := by
      intro g5 hfr5 m5
      have z30 : (upN (upN (upN (upN (upN Y (120 + (3 * s + f)) (Y (120 + (3 * s + f)) - 1)) (75 + 5 * (3 * s + f) + (Y (120 + (3 * s + f)) - 1)) 0) 146 (Y 146 + eff)) (15 + c) (Y (15 + c) + 1)) (30 + c) brk) (30 + c) = brk := upN_s
      have ez : ∀ i, i ≠ c → tkY Y (3 * s + f) c eff brk i = (upN (upN (upN (upN (upN Y (120 + (3 * s + f)) (Y (120 + (3 * s + f)) - 1)) (75 + 5 * (3 * s + f) + (Y (120 + (3 * s + f)) - 1)) 0) 146 (Y 146 + eff)) (15 + c) (Y (15 + c) + 1)) (30 + c) brk) i := fun i hi => by unfold tkY; rw [upN_o hi]
      refine M_l201 m5 (by omega) ht (by omega) (by rw [z30]; omega) (fun t3 hz => ?_) (fun t3 => ?_) (fun g' hfr h1 h2 h3 => hK g' (fun a k ha => by rw [hfr a k ha]; exact hfr5 a k ha) (lfY_all (P := Ms g') ht hbrk.symm (fun t3 => h1 t3) (fun t3 hb => h2 t3 (by rw [z30]; exact hb)) (fun t3 hb => h3 t3 (by rw [z30]; exact hb))))
      · rw [← ez 144 (by omega)]; exact yo1.qroom h5 (show c < R 5 by omega) tc
      · rw [← ez _ (by omega)]; exact yo1.room hR.2.2.2.2.2.2.1 (by omega) (show c < R 5 by omega) (by omega) tc
    have keep : brk = 0 → Ms g4 (upN (upN (upN (upN (upN Y (120 + (3 * s + f)) (Y (120 + (3 * s + f)) - 1)) (75 + 5 * (3 * s + f) + (Y (120 + (3 * s + f)) - 1)) 0) 146 (Y 146 + eff)) (15 + c) (Y (15 + c) + 1)) (30 + c) brk) := fun hb => m4.eq fun i => by
      by_cases e : i = 30 + c
      · subst e
        rw [upN_s, upN_o (by omega), upN_o (by omega), upN_o (by omega), upN_o (by omega), hy8.2.2.1, hb, if_neg]
        intro hcn
        rw [← hbrk, if_pos ⟨hcn.1, by omega⟩] at hb
        exact absurd hb (by decide)
      · rw [upN_o e]
    refine ⟨fun a => IX_e (q := 15 + c) (nI_add 15 c) (by omega) ⟨fun a2 => fin _ hfr4 (keep ?_), fun a2 => IX_e (q := 30 + c) (nI_add 30 c) (by omega) (fin _ (fun a k ha => by rw [uI_o ha]; exact hfr4 a k ha) ?_)⟩, fun a => fin _ hfr4 (keep ?_)⟩
    · rw [m4 _ (by omega), upN_s] at a2
      have := le_n (by omega) (by decide) a2
      rw [← hbrk, if_neg (by omega)]
    · rw [nI_eq (by omega) (by decide)] at a
      rw [m4 _ (by omega), upN_s] at a2
      have h2 : 2 ≤ Y (15 + c) + 1 := by
        rcases Nat.lt_or_ge (Y (15 + c) + 1) 2 with h | h
        · exact absurd (nI_le (by omega) (by decide)) a2
        · exact h
      have hb1 : brk = 1 := by rw [← hbrk, if_pos ⟨a, h2⟩]
      rw [hb1]; exact m4.u _ _
    · rw [nI_eq (by omega) (by decide)] at a
      rw [← hbrk, if_neg (fun h => a h.1)]
  refine ⟨fun a => ?_, fun a => ?_⟩
  · rw [nI_eq (by omega) (by decide)] at a
    rw [he, if_pos a] at go; exact go
  · rw [nI_eq (by omega) (by decide)] at a
    rw [he, if_neg a] at go; exact go
theorem XS.vw {r' : Rr} {n p p' b kc ic T : Nat} {R Y σ : Nat → Nat} {KY IY : Nat → Nat → Nat} {τ : Nat → Nat} {g0 : Gi} (hX : XS p p' b kc ic T R Y σ KY IY τ r g) (hV : Vw n p b R Y r' g0) (ho : ∀ a k, 263 ≤ a → g a k = g0 a k) : Vw n p b R Y r g := by
  obtain ⟨v1, v2, v3, v4, v5, v6, ⟨v7, v8, v9⟩, v10, v11⟩ := hV
  refine ⟨hX.1, v2, hX.2.2.1, hX.2.2.2.1, fun k hk => by rw [ho 266 k (by decide)]; exact v5 k hk, fun k hk => by rw [ho 268 k (by decide)]; exact v6 k hk, ⟨hX.2.2.2.2.1, by rw [ho 263 14 (by decide)]; exact v8, v9⟩, v10, v11⟩
theorem o_lift (hn : n + 1 ≤ 512) (hJ : J n r g) (x1 x2 x3 : Int32) : OPi (d + 4) 112 244 [.int x1, .int x2, .int x3] n r g j := by
  refine OPi.mk hn hJ fun p p' b kc ic T R Y σ KY IY τ hX hM hP hF hV => ?_
  have hb := hP.hb
  have hk16 := hP.2.2.2.1.1
  have hi3 := hP.2.2.2.2.2.1.1
  have h4 := hb.1
  have h5 := hb.2
  have yo := hP.2.2.1
  have mv : ∀ g2, MS b kc ic T R Y KY IY τ g2 → Mv n b R Y g2 := fun g2 h => ⟨h.1, h.2.1, h.2.2.1, hP.1, hP.2.1, hP.2.2.1⟩
  have no : ∀ e : Int32, Cm (d + 3) 121 [.ref 0, .int e] r g j (rkI fun y17 r14 g15 j16 => rkI (fun v1 r1 g1 _ => v1 = -1 ∧ (∃ σ', XS p p' b kc ic T R Y σ' KY IY τ r1 g1) ∧ (∀ a k, 263 ≤ a → g1 a k = g a k) ∧ g1 0 7 = e ∧ g1 0 6 = g 0 6) (some (.int y17)) r14 g15 j16) := fun e =>
    vX9_refused_0 ⟨rfl, ⟨σ, hX.t7 hb hk16 hi3⟩, fun a k h => uI_d (by omega), uI_s, uI_n (by decide)⟩
  have mno : ∀ (e : Int32) (g0 g2 : Gi) (r : Rr) (j : Gl), MS b kc ic T R Y KY IY τ g2 → (∀ a k, a < 263 → g2 a k = g0 a k) → g2 263 9 = g0 263 9 → Cm (d + 3) 142 [.ref 263, .int e] r g2 j (rkI fun y14 r11 g12 j13 => rkI (fun v2 r2 g2 _ => v2 = -1 ∧ r2 = r ∧ MS b kc ic T R Y KY IY τ g2 ∧ (∀ a k, a < 263 → g2 a k = g0 a k) ∧ g2 263 11 = e ∧ g2 263 9 = g0 263 9) (some (.int y14)) r11 g12 j13) := fun e g0 g2 r j hM2 hmo h9 =>
    vX10_no_0 ⟨rfl, rfl, hM2.ag (Ag.rf.u rfl), fun a k h => by rw [uI_o (by omega)]; exact hmo a k h, uI_s, by rw [uI_n (by decide)]; exact h9⟩
  by_cases hv : ∃ s f t, s < R 4 ∧ f < 3 ∧ t ≤ 3 ∧ x1 = nI s ∧ x2 = nI f ∧ x3 = nI t
  · obtain ⟨s, f, t, hs, hf, ht, rfl, rfl, rfl⟩ := hv
    have hk1 := yo.1 (3 * s + f) (by omega)
    have ht3 : nI t ≤ nI 3 := nI_le ht (by decide)
    by_cases hno : f = t ∨ Y (120 + (3 * s + f)) = 0
    · refine ⟨-1, nI 5, kc, ic, T, Y, KY, IY, τ, e5, hP.up hn, ?_, fun r g j hM => ?_⟩
      · refine vX9_lift_0 (X_noStack hV (fun _ _ _ _ _ _ => ⟨fun _ => ⟨fun a => absurd a (nlt_0 (by omega)), fun _ => ⟨fun _ => ⟨fun _ => vX9_lift_41 (no _), fun a => X_height hV (by omega) hf ⟨fun _ => vX9_lift_41 (no _), fun a2 => ?_⟩⟩, fun a => absurd ht3 a⟩⟩, fun a => absurd n00 a⟩) (fun o => (o.elim (fun o => o s hs rfl) (fun o => o f hf rfl)).elim))
        rw [nI_eq (by omega) (by omega)] at a
        rw [nI_z (by omega)] at a2
        omega
      · refine vX10_lift_0 (hM.good fun g2 hM2 hmo h11 h9 => W_isStack (mv g2 hM2) (fun _ _ _ _ _ _ => ⟨fun a => absurd a n10, fun _ => M_in 3 (by decide) (fun _ _ _ => ⟨fun a => absurd a n10, fun _ => ⟨fun _ => vX10_lift_42 (mno _ g g2 _ _ hM2 hmo h9), fun a => W_highOf (mv g2 hM2) (by omega) hf ⟨fun _ => vX10_lift_42 (mno _ g g2 _ _ hM2 hmo h9), fun a2 => ?_⟩⟩⟩) (fun o => (o t (by omega) rfl).elim)⟩) (fun o => (o.elim (fun o => o s hs rfl) (fun o => o f hf rfl)).elim))
        rw [nI_eq (by omega) (by omega)] at a
        rw [nI_z (by omega)] at a2
        omega
    · have hft : f ≠ t := fun e => hno (Or.inl e)
      have hh : 1 ≤ Y (120 + (3 * s + f)) := by
        rcases Nat.eq_zero_or_pos (Y (120 + (3 * s + f))) with e | e
        · exact absurd (Or.inr e) hno
        · exact e
      have hc1 := hk1.2.2 (Y (120 + (3 * s + f)) - 1) (by omega)
      obtain ⟨c, hc⟩ : ∃ c, Y (75 + 5 * (3 * s + f) + (Y (120 + (3 * s + f)) - 1)) = c + 1 := ⟨_, (Nat.sub_add_cancel hc1.1).symm⟩
      have hS : ∀ c, c < R 5 → R (22 + 5 * c) < 3 := fun c hc => by have := (hP.2.1.2.2.2.2.1 c hc).2.1; omega
      have hb1 : b = 1 := by rcases hP.1 with h | h
                             · have := hP.2.1.1 h 4; omega
                             · exact h
      have hyo := yo.lf (t := t) (eff := if R (21 + 5 * c) = 3 then 2 else 1) h4 h5 hP.2.1.2.2.2.2.2.2.1 hS hs hf ht hft hh hc (by split <;> omega)
      have hftI : ¬ nI f = nI t := fun e => hft ((nI_eq (by omega) (by omega)).mp e)
      have hhI : ¬ nI (Y (120 + (3 * s + f))) = 0 := fun e => by rw [nI_z (by omega)] at e; omega
      refine ⟨nI c, nI 0, kk kc, ic, T, lfY R Y s f t c (if R (21 + 5 * c) = 3 then 2 else 1), kY kc KY Y, IY, τ, e0, hP.act hn hb1 hyo, ?_, fun r g j hM => ?_⟩
      · refine vX9_lift_0 (X_noStack hV (fun _ _ _ _ _ _ => ⟨fun _ => ⟨fun a => absurd a (nlt_0 (by omega)), fun _ => ⟨fun _ => ⟨fun a => absurd a hftI, fun a => X_height hV (by omega) hf ⟨fun a => absurd a hhI, fun _ => X_keepNow hX hb hk16 hi3 yo fun r' g' σ' hX' hxo h6 => ⟨p, hX'.1, X_hoist (hX'.vw hV hxo) hs hf ht hft hh hc rfl fun g2 brk hbrk q1 q2 q3 hfr => vX9_answered_0 ⟨rfl, ⟨σ', ?_⟩, fun a k h => ?_, uI_s, ?_⟩⟩⟩⟩, fun a => absurd ht3 a⟩⟩, fun a => absurd n00 a⟩) (fun o => (o.elim (fun o => o s hs rfl) (fun o => o f hf rfl)).elim))
        · refine XS.t7 (hX'.now hb (kk_le hk16) hi3 (fun a k h1 h2 h3 => hfr a k h2) ?_) hb (kk_le hk16) hi3
          exact lfY_all (P := fun Z => Yx 62 R Z g2) ht hbrk q1 q2 q3
        · rw [uI_d (by omega), hfr a k (by omega)]; exact hxo a k h
        · rw [uI_d (by omega), hfr 0 6 (by omega)]; exact h6
      · refine vX10_lift_0 (hM.good fun g2 hM2 hmo h11 h9 => W_isStack (mv g2 hM2) (fun _ _ _ _ _ _ => ⟨fun a => absurd a n10, fun _ => M_in 3 (by decide) (fun _ _ _ => ⟨fun a => absurd a n10, fun _ => ⟨fun a => absurd a hftI, fun a => W_highOf (mv g2 hM2) (by omega) hf ⟨fun a => absurd a hhI, fun _ => M_note hM2 hk16 fun g3 hM3 hmo3 h113 h93 => M_lift hM3.1 hM3.2.1 yo hP.2.2.2.2.2.2.2.2.1 hP.2.1 hs hf ht hft hh hc rfl fun g4 hfr hms => ⟨rfl, rfl, ?_, fun a k h => ?_, ?_, ?_⟩⟩⟩⟩) (fun o => (o t (by omega) rfl).elim)⟩) (fun o => (o.elim (fun o => o s hs rfl) (fun o => o f hf rfl)).elim))
        · exact hM3.gen (fun a k h => hfr a k (by omega)) hms (hM3.2.2.2.1.eq (fun k => hfr 269 k (by decide)) (hfr 263 20 (by decide))) (hM3.2.2.2.2.1.eq (fun k => hfr 270 k (by decide)) (hfr 263 21 (by decide)))
        · rw [hfr a k (by omega), hmo3 a k h]; exact hmo a k h
        · rw [hfr 263 11 (by decide), h113]; exact h11
        · rw [hfr 263 9 (by decide), h93]; exact h9
  · refine ⟨-1, nI 1, kc, ic, T, Y, KY, IY, τ, e1, hP.up hn, ?_, fun r g j hM => ?_⟩
    · refine vX9_lift_0 (X_noStack hV (fun s f hs hf e1 e2 => ⟨fun _ => ⟨fun _ => vX9_lift_18 (no _), fun a0 => ⟨fun a => ?_, fun _ => vX9_lift_18 (no _)⟩⟩, fun a => absurd n00 a⟩) (fun o => ⟨fun a => absurd a n10, fun _ => vX9_lift_18 (no _)⟩))
      rcases in_or x3 (n := 4) (by decide) with ⟨t, ht, e3⟩ | o
      · exact absurd ⟨s, f, t, hs, hf, by omega, e1, e2, e3⟩ hv
      · exfalso
        have h3 := out_c (n := 4) (by decide) o a0
        rw [Int32.le_iff_toInt_le] at h3 a
        have e3 : (nI 3).toInt = 3 := by decide +kernel
        have e4 : (nI 4).toInt = 4 := by decide +kernel
        omega
    · refine vX10_lift_0 (hM.good fun g2 hM2 hmo h11 h9 => W_isStack (mv g2 hM2) (fun s f hs hf e1 e2 => ⟨fun a => absurd a n10, fun _ => M_in 3 (by decide) (fun t ht e3 => (hv ⟨s, f, t, hs, hf, ht, e1, e2, e3⟩).elim) (fun o => ⟨fun _ => vX10_lift_22 (mno _ g g2 _ _ hM2 hmo h9), fun a => absurd n00 a⟩)⟩) (fun o => ⟨fun _ => vX10_lift_22 (mno _ g g2 _ _ hM2 hmo h9), fun a => absurd n00 a⟩))
end
