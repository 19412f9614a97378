/-! THE INVARIANT between class and reference -/
def fwF (R : Nat → Nat) : Nat → Nat → Nat → Nat
  | 0, a, c => if a = c then 0 else if 0 < R (101 + 5 * a + c) then R (101 + 5 * a + c) else 1000000
  | k + 1, a, c => if fwF R k a k + fwF R k k c < fwF R k a c then fwF R k a k + fwF R k k c else fwF R k a c
def isR (R : Nat → Nat) (a c : Nat) : Prop := ∀ k, k ≤ 9 → gaV R k c ≤ gaV R a c ∧ coV R a k ≤ coV R a c
noncomputable def rsN (R : Nat → Nat) : Nat → List Nat
  | 0 => []
  | q + 1 => rsN R q ++ @ite (List Nat) (isR R (q / 10) (q % 10)) (Classical.propDecidable _) [q] []
noncomputable abbrev rsL (R : Nat → Nat) : List Nat := rsN R 100
def Der (b : Nat) (R : Nat → Nat) (g : Gi) : Prop := b = 1 → (∀ a c, a < 5 → c < 5 → g (83 + a) c = nI (fwF R 5 a c)) ∧ g 88 1 = nI (rsL R).length ∧ ∀ i v, (rsL R)[i]? = some v → g 89 i = nI v
def Ft (g : Gi) : Prop := g 0 6 = g 263 9 ∧ g 0 7 = g 263 11 ∧ (g 0 7 = nI 4 → g 58 17 = g 263 10)
def Kx (n b kc : Nat) (R : Nat → Nat) (σ : Nat → Nat) (KY : Nat → Nat → Nat) (r : Rr) (g : Gi) : Prop :=
  (∀ i, i < 16 → r 71 i = some (92 + 9 * σ i) ∧ σ i < 16) ∧ (∀ i i', i < 16 → i' < 16 → σ i = σ i' → i = i') ∧ (kc ≤ 16 ∧ (b = 0 → kc = 0) ∧ g 0 10 = nI kc ∧ g 263 20 = nI kc) ∧
  ∀ i, i < kc → Yx (92 + 9 * σ i) R (KY i) g ∧ YO n R (KY i) ∧ ∀ k, k < 246 → g 269 (246 * i + k) = nI (KY i k)
def Ix (n b ic : Nat) (R : Nat → Nat) (IY : Nat → Nat → Nat) (g : Gi) : Prop :=
  (ic ≤ 3 ∧ (b = 0 → ic = 0) ∧ g 0 12 = nI ic ∧ g 263 21 = nI ic) ∧ ∀ i, i < ic → Yx (236 + 9 * i) R (IY i) g ∧ YO n R (IY i) ∧ ∀ k, k < 246 → g 270 (246 * i + k) = nI (IY i k)
def Tx (T : Nat) (τ : Nat → Nat) (g : Gi) : Prop := (T ≤ 1000 ∧ g 0 1 = nI T ∧ g 263 2 = nI T) ∧ ∀ i, i < T → τ i < 256 ∧ g 264 i = nI (τ i) ∧ g 1 i = (nI (τ i)).toInt8.toInt32
def Pp (p p' : Nat) (r : Rr) : Prop := r 0 3 = some p' ∧ ((p = 2 ∧ p' = 30) ∨ (p = 30 ∧ p' = 2))
def Jx (n p p' b kc ic T : Nat) (R Y : Nat → Nat) (σ : Nat → Nat) (KY IY : Nat → Nat → Nat) (τ : Nat → Nat) (r : Rr) (g : Gi) : Prop :=
  Vw n p b R Y r g ∧ Pp p p' r ∧ Der b R g ∧ Ft g ∧ Kx n b kc R σ KY r g ∧ Ix n b ic R IY g ∧ Tx T τ g ∧ (b = 0 → ∀ k, Y k = 0)
def J (n : Nat) (r : Rr) (g : Gi) : Prop := ∃ p p' b kc ic T R Y σ KY IY τ, Jx n p p' b kc ic T R Y σ KY IY τ r g
theorem YO.up {n : Nat} {R Y : Nat → Nat} (h : YO n R Y) : YO (n + 1) R Y := by
  obtain ⟨h1, h2, h3, h4, h5, h6, h7, h8, h9, h10, h11, h12⟩ := h
  exact ⟨h1, h2, h3, h4, h5, h6, h7, fun c hc => ⟨(h8 c hc).1, by have := (h8 c hc).2.1; omega, (h8 c hc).2.2⟩, h9, h10, h11, by omega, h12.2⟩
theorem Vw.up {n p b : Nat} {R Y : Nat → Nat} {r : Rr} {g : Gi} (h : Vw n p b R Y r g) (hn : n + 1 ≤ 512) : Vw (n + 1) p b R Y r g := by
  obtain ⟨h1, h2, h3, h4, h5, h6, h7, h8, h9, h10⟩ := h
  exact ⟨h1, h2, h3, h4, h5, h6, h7, h8, h9.up, hn⟩
theorem Kx.up {n b kc : Nat} {R σ : Nat → Nat} {KY : Nat → Nat → Nat} {r : Rr} {g : Gi} (h : Kx n b kc R σ KY r g) : Kx (n + 1) b kc R σ KY r g := ⟨h.1, h.2.1, h.2.2.1, fun i hi => ⟨(h.2.2.2 i hi).1, (h.2.2.2 i hi).2.1.up, (h.2.2.2 i hi).2.2⟩⟩
theorem Ix.up {n b ic : Nat} {R : Nat → Nat} {IY : Nat → Nat → Nat} {g : Gi} (h : Ix n b ic R IY g) : Ix (n + 1) b ic R IY g := ⟨h.1, fun i hi => ⟨(h.2 i hi).1, (h.2 i hi).2.1.up, (h.2 i hi).2.2⟩⟩
theorem Der.ag {b : Nat} {R : Nat → Nat} {g g' : Gi} (h : Der b R g) (ha : Ag g g') : Der b R g' := by
  intro hb
  obtain ⟨h1, h2, h3⟩ := h hb
  refine ⟨fun a c x y => ?_, ?_, fun i v e => ?_⟩
  · rw [ha (83 + a) c (exc_mid2 (by omega) (by omega))]; exact h1 a c x y
  · rw [ha 88 1 rfl]; exact h2
  · rw [ha 89 i rfl]; exact h3 i v e
theorem Kx.ag {n b kc : Nat} {R σ : Nat → Nat} {KY : Nat → Nat → Nat} {r : Rr} {g g' : Gi} (h : Kx n b kc R σ KY r g) (ha : Ag g g') : Kx n b kc R σ KY r g' := by
  obtain ⟨h1, h2, ⟨h3, h4, h5, h6⟩, h7⟩ := h
  refine ⟨h1, h2, ⟨h3, h4, ?_, ?_⟩, fun i hi => ⟨(h7 i hi).1.ag (fun a k x y => exc_mid2 (by omega) (by have := (h1 i (by omega)).2; omega)) ha, (h7 i hi).2.1, fun k hk => ?_⟩⟩
  · rw [ha 0 10 rfl]; exact h5
  · rw [ha 263 20 rfl]; exact h6
  · rw [ha 269 _ rfl]; exact (h7 i hi).2.2 k hk
theorem Ix.ag {n b ic : Nat} {R : Nat → Nat} {IY : Nat → Nat → Nat} {g g' : Gi} (h : Ix n b ic R IY g) (ha : Ag g g') : Ix n b ic R IY g' := by
  obtain ⟨⟨h3, h4, h5, h6⟩, h7⟩ := h
  refine ⟨⟨h3, h4, ?_, ?_⟩, fun i hi => ⟨(h7 i hi).1.ag (fun a k x y => exc_mid2 (by omega) (by omega)) ha, (h7 i hi).2.1, fun k hk => ?_⟩⟩
  · rw [ha 0 12 rfl]; exact h5
  · rw [ha 263 21 rfl]; exact h6
  · rw [ha 270 _ rfl]; exact (h7 i hi).2.2 k hk
theorem Tx.ag {T : Nat} {τ : Nat → Nat} {g g' : Gi} (h : Tx T τ g) (ha : Ag g g') : Tx T τ g' := by
  obtain ⟨⟨h1, h2, h3⟩, h4⟩ := h
  refine ⟨⟨h1, by rw [ha 0 1 rfl]; exact h2, by rw [ha 263 2 rfl]; exact h3⟩, fun i hi => ⟨(h4 i hi).1, by rw [ha 264 i rfl]; exact (h4 i hi).2.1, by rw [ha 1 i rfl]; exact (h4 i hi).2.2⟩⟩
/-- a query keeps the invariant -/
theorem J_ag {n : Nat} {r : Rr} {g g' : Gi} (hn : n + 1 ≤ 512) (h : J n r g) (ha : Ag g g') (h7 : g' 0 7 = g' 263 11) (h4 : g' 0 7 ≠ nI 4) : J (n + 1) r g' := by
  obtain ⟨p, p', b, kc, ic, T, R, Y, σ, KY, IY, τ, j1, j2, j3, j4, j5, j6, j7, j8⟩ := h
  exact ⟨p, p', b, kc, ic, T, R, Y, σ, KY, IY, τ, (j1.ag ha).up hn, j2, j3.ag ha, ⟨by rw [ha 0 6 rfl, ha 263 9 rfl]; exact j4.1, h7, fun e => absurd e h4⟩, (j5.ag ha).up, (j6.ag ha).up, j7.ag ha, j8⟩
/-- what the law needs of a call that answers an int: alike, and the invariant behind it -/
def OPi (d xm mm : Nat) (as : List Value) (n : Nat) (r : Rr) (g : Gi) (j : Gl) : Prop := Cm d xm (.ref 0 :: as) r g j (rkI fun v r1 g1 j1 => Cm d mm (.ref 263 :: as) r1 g1 j1 (rkI fun v' r2 g2 j2 => v = v' ∧ J (n + 1) r2 g2))
def OPl (d xm mm : Nat) (as : List Value) (n : Nat) (r : Rr) (g : Gi) (j : Gl) : Prop := Cm d xm (.ref 0 :: as) r g j (rkJ fun v r1 g1 j1 => Cm d mm (.ref 263 :: as) r1 g1 j1 (rkJ fun v' r2 g2 j2 => v = v' ∧ J (n + 1) r2 g2))
theorem Cm_mI {d mi : Nat} {as : List Value} {r : Rr} {g : Gi} {j : Gl} {K K' : Int32 → Rr → Gi → Gl → Prop} (h : Cm d mi as r g j (rkI K)) (hK : ∀ v r g j, K v r g j → K' v r g j) : Cm d mi as r g j (rkI K') := by
  refine Cm_mono h (fun v r g j hv => ?_)
  unfold rkI at hv ⊢
  split at hv
  · exact hK _ _ _ _ hv
  · exact hv.elim
theorem Cm_mJ {d mi : Nat} {as : List Value} {r : Rr} {g : Gi} {j : Gl} {K K' : Int64 → Rr → Gi → Gl → Prop} (h : Cm d mi as r g j (rkJ K)) (hK : ∀ v r g j, K v r g j → K' v r g j) : Cm d mi as r g j (rkJ K') := by
  refine Cm_mono h (fun v r g j hv => ?_)
  unfold rkJ at hv ⊢
  split at hv
  · exact hK _ _ _ _ hv
  · exact hv.elim
theorem OPi.of {d xm mm : Nat} {as : List Value} {n : Nat} {r : Rr} {g : Gi} {j : Gl} (hn : n + 1 ≤ 512) (hJ : J n r g) (h : ∀ p b R Y, Vw n p b R Y r g → PQ n p b R Y r d xm mm as) : OPi d xm mm as n r g j := by
  obtain ⟨p, p', b, kc, ic, T, R, Y, σ, KY, IY, τ, hj⟩ := id hJ
  obtain ⟨v, e, he, hX, hM⟩ := h p b R Y hj.1
  refine Cm_mI (hX g j hj.1) ?_
  rintro v1 r1 g1 j1 ⟨rfl, rfl, ha, h7⟩
  refine Cm_mI (hM g1 j1 (hj.1.ag ha)) ?_
  rintro v2 r2 g2 j2 ⟨rfl, rfl, ha2, h11, h72⟩
  exact ⟨rfl, J_ag hn hJ (ha.tr ha2) (by rw [h72, h11, h7]) (by rw [h72, h7]; exact he)⟩
theorem OPl.of {d xm mm : Nat} {as : List Value} {n : Nat} {r : Rr} {g : Gi} {j : Gl} (hn : n + 1 ≤ 512) (hJ : J n r g) (h : ∀ p b R Y, Vw n p b R Y r g → PQl n p b R Y r d xm mm as) : OPl d xm mm as n r g j := by
  obtain ⟨p, p', b, kc, ic, T, R, Y, σ, KY, IY, τ, hj⟩ := id hJ
  obtain ⟨v, e, he, hX, hM⟩ := h p b R Y hj.1
  refine Cm_mJ (hX g j hj.1) ?_
  rintro v1 r1 g1 j1 ⟨rfl, rfl, ha, h7⟩
  refine Cm_mJ (hM g1 j1 (hj.1.ag ha)) ?_
  rintro v2 r2 g2 j2 ⟨rfl, rfl, ha2, h11, h72⟩
  exact ⟨rfl, J_ag hn hJ (ha.tr ha2) (by rw [h72, h11, h7]) (by rw [h72, h7]; exact he)⟩
/-- the same, where the class looks into what was settled when the port was told -/
def PD (n p b : Nat) (R Y : Nat → Nat) (r : Rr) (d xm mm : Nat) (as : List Value) : Prop := ∃ v e : Int32, e ≠ nI 4 ∧
  (∀ g j, Vw n p b R Y r g → Der b R g → Cm d xm (.ref 0 :: as) r g j (rkI (EX v e r g))) ∧ (∀ g j, Vw n p b R Y r g → Cm d mm (.ref 263 :: as) r g j (rkI (EM v e r g)))
theorem OPi.od {d xm mm : Nat} {as : List Value} {n : Nat} {r : Rr} {g : Gi} {j : Gl} (hn : n + 1 ≤ 512) (hJ : J n r g) (h : ∀ p b R Y, Vw n p b R Y r g → (b = 0 → ∀ k, Y k = 0) → PD n p b R Y r d xm mm as) : OPi d xm mm as n r g j := by
  obtain ⟨p, p', b, kc, ic, T, R, Y, σ, KY, IY, τ, hj⟩ := id hJ
  obtain ⟨v, e, he, hX, hM⟩ := h p b R Y hj.1 hj.2.2.2.2.2.2.2
  refine Cm_mI (hX g j hj.1 hj.2.2.1) ?_
  rintro v1 r1 g1 j1 ⟨rfl, rfl, ha, h7⟩
  refine Cm_mI (hM g1 j1 (hj.1.ag ha)) ?_
  rintro v2 r2 g2 j2 ⟨rfl, rfl, ha2, h11, h72⟩
  exact ⟨rfl, J_ag hn hJ (ha.tr ha2) (by rw [h72, h11, h7]) (by rw [h72, h7]; exact he)⟩
theorem PQ.pd {n p b d xm mm : Nat} {R Y : Nat → Nat} {r : Rr} {as : List Value} (h : PQ n p b R Y r d xm mm as) : PD n p b R Y r d xm mm as := by
  obtain ⟨v, e, he, hX, hM⟩ := h
  exact ⟨v, e, he, fun g j hV _ => hX g j hV, hM⟩
section
variable {n d : Nat} {r : Rr} {g : Gi} {j : Gl}
theorem o_had (hn : n + 1 ≤ 512) (hJ : J n r g) (x1 : Int32) : OPi (d + 3) 82 191 [.int x1] n r g j := OPi.od hn hJ fun p b R Y hV hz => (q_had x1 hV.yo.2.2.2.2.2.2.2.2.2.1.1 (fun h => hz h 145)).pd
theorem b0Y {n p b : Nat} {R Y : Nat → Nat} (hV : Vw n p b R Y r g) (k : Nat) : b = 0 → R k = 0 := fun h => hV.ro.1 h k
theorem o_high (hn : n + 1 ≤ 512) (hJ : J n r g) (x1 x2 : Int32) : OPi (d + 3) 78 185 [.int x1, .int x2] n r g j := OPi.of hn hJ fun p b R Y hV => q_high x1 x2 hV.b4
theorem o_lies (hn : n + 1 ≤ 512) (hJ : J n r g) (x1 x2 x3 : Int32) : OPi (d + 3) 79 186 [.int x1, .int x2, .int x3] n r g j := OPi.of hn hJ fun p b R Y hV => q_lies x1 x2 x3 hV.b4 (fun k hk => (hV.yo.1 k hk).1)
theorem qu0 {n p b : Nat} {R Y : Nat → Nat} (hV : Vw n p b R Y r g) : b = 0 → Y 144 = 0 := fun h => by
  have h5 := hV.ro.1 h 5
  rcases Nat.eq_zero_or_pos (Y 144) with e | e
  · exact e
  · have := (hV.yo.2.2.2.2.1.2 0 e).1; omega
theorem o_quay (hn : n + 1 ≤ 512) (hJ : J n r g) (x1 : Int32) : OPi (d + 3) 80 187 [.int x1] n r g j := OPi.of hn hJ fun p b R Y hV => q_quay x1 hV.yo.2.2.2.2.1.1 (qu0 hV)
theorem o_next (hn : n + 1 ≤ 512) (hJ : J n r g) : OPi (d + 3) 81 189 [] n r g j := OPi.of hn hJ fun p b R Y hV => q_next
theorem o_hadOn (hn : n + 1 ≤ 512) (hJ : J n r g) (x1 : Int32) : OPi (d + 3) 83 193 [.int x1] n r g j := OPi.of hn hJ fun p b R Y hV => q_hadOn x1 hV.ro hV.yo
theorem o_missing (hn : n + 1 ≤ 512) (hJ : J n r g) : OPi (d + 3) 84 194 [] n r g j := OPi.of hn hJ fun p b R Y hV => q_missing
theorem o_evenings (hn : n + 1 ≤ 512) (hJ : J n r g) : OPi (d + 3) 85 195 [] n r g j := OPi.of hn hJ fun p b R Y hV => q_evenings
theorem o_judge (hn : n + 1 ≤ 512) (hJ : J n r g) : OPi (d + 3) 86 197 [] n r g j := OPi.of hn hJ fun p b R Y hV => q_judge
theorem o_come (hn : n + 1 ≤ 512) (hJ : J n r g) (x1 x2 x3 : Int32) : OPl (d + 3) 87 199 [.int x1, .int x2, .int x3] n r g j := OPl.of hn hJ fun p b R Y hV => q_come x1 x2 x3 hV.b4
theorem o_allCome (hn : n + 1 ≤ 512) (hJ : J n r g) (x1 x2 : Int32) : OPl (d + 3) 88 200 [.int x1, .int x2] n r g j := OPl.of hn hJ fun p b R Y hV => q_allCome x1 x2
theorem o_sure (hn : n + 1 ≤ 512) (hJ : J n r g) (x1 : Int32) : OPi (d + 3) 89 201 [.int x1] n r g j := OPi.of hn hJ fun p b R Y hV => q_sure x1
theorem o_mean (hn : n + 1 ≤ 512) (hJ : J n r g) (x1 x2 : Int32) : OPl (d + 3) 90 213 [.int x1, .int x2] n r g j := OPl.of hn hJ fun p b R Y hV => q_mean x1 x2 hV.b4
theorem o_weight (hn : n + 1 ≤ 512) (hJ : J n r g) (x1 : Int32) : OPi (d + 3) 91 214 [.int x1] n r g j := OPi.of hn hJ fun p b R Y hV => q_weight x1 hV.b4 hV.ro hV.yo
theorem o_heaviest (hn : n + 1 ≤ 512) (hJ : J n r g) (x1 : Int32) : OPi (d + 3) 92 216 [.int x1] n r g j := OPi.of hn hJ fun p b R Y hV => q_heaviest x1 hV.b4
theorem o_wrongly (hn : n + 1 ≤ 512) (hJ : J n r g) (x1 : Int32) : OPi (d + 3) 95 212 [.int x1] n r g j := OPi.of hn hJ fun p b R Y hV => q_wrongly x1 hV.b4
theorem o_crate (hn : n + 1 ≤ 512) (hJ : J n r g) (x1 x2 : Int32) : OPi (d + 3) 77 181 [.int x1, .int x2] n r g j := OPi.of hn hJ fun p b R Y hV => q_crate x1 x2 hV.b5
theorem o_share (hn : n + 1 ≤ 512) (hJ : J n r g) (x1 x2 : Int32) : OPi (d + 3) 101 225 [.int x1, .int x2] n r g j := OPi.of hn hJ fun p b R Y hV => q_share x1 x2 hV.b6
theorem o_strike (hn : n + 1 ≤ 512) (hJ : J n r g) (x1 x2 x3 : Int32) : OPi (d + 3) 107 235 [.int x1, .int x2, .int x3] n r g j := OPi.of hn hJ fun p b R Y hV => q_strike x1 x2 x3
theorem o_winter (hn : n + 1 ≤ 512) (hJ : J n r g) (x1 : Int32) : OPi (d + 3) 110 241 [.int x1] n r g j := OPi.of hn hJ fun p b R Y hV => q_winter x1
theorem o_lates (hn : n + 1 ≤ 512) (hJ : J n r g) (x1 x2 x3 : Int32) : OPi (d + 4) 111 242 [.int x1, .int x2, .int x3] n r g j := OPi.of hn hJ fun p b R Y hV => q_lates x1 x2 x3 hV.b4
end
