/-! NIGHT: the class's counts by weights -/
abbrev wR (R : Nat → Nat) : Nat → Nat := fun c => R (24 + 5 * c)
abbrev oY (Y : Nat → Nat) : Nat → Nat := fun c => Y (60 + c)
def setF (R Y : Nat → Nat) : Nat := if ldF (oY Y) (wR R) (R 5) ≤ R 0 then cW (oY Y) (wR R) (R 5) (R 0 - ldF (oY Y) (wR R) (R 5)) else 0
def wthF (R Y : Nat → Nat) (c : Nat) : Nat := if ldF (oY Y) (wR R) (R 5) ≤ R 0 then wB (oY Y) (wR R) c (R 5) (R 0 - ldF (oY Y) (wR R) (R 5)) else 0
theorem wthF_le {R Y : Nat → Nat} {c : Nat} (hc : c < R 5) : wthF R Y c ≤ setF R Y := by
  unfold wthF setF
  split
  · exact wB_le hc
  · exact Nat.le_refl _
theorem setF_le {R Y : Nat → Nat} (h : R 5 ≤ 15) : setF R Y ≤ 32768 := by
  unfold setF
  split
  · refine Nat.le_trans (cW_le _ _) ?_
    exact Nat.pow_le_pow_right (n := 2) (by decide) h
  · omega
theorem sub3 (a b c : Nat) : nI a - nI b - nI c = nI a - nI (b + c) := by
  rw [← nI_add]; simp [Int32.sub_eq_add_neg, Int32.add_assoc, Int32.neg_add]
theorem tot_le {o w : Nat → Nat} {N : Nat} : ∀ m, (∀ c, c < m → w c ≤ N) → tot o w m ≤ N * m := by
  intro m
  induction m with
  | zero => intro _; exact Nat.zero_le _
  | succ m ih =>
    intro h
    have i := ih (fun c hc => h c (by omega))
    have := h m (by omega)
    show tot o w m + (if o m = 0 then w m else 0) ≤ _
    rw [Nat.mul_succ]
    split <;> omega
theorem ldF_le {o w : Nat → Nat} {N : Nat} : ∀ m, (∀ c, c < m → w c ≤ N) → ldF o w m ≤ 2 * N * m := by
  intro m
  induction m with
  | zero => intro _; exact Nat.zero_le _
  | succ m ih =>
    intro h
    have i := ih (fun c hc => h c (by omega))
    have := h m (by omega)
    show ldF o w m + (if o m = 1 then 2 * w m else w m) ≤ _
    rw [Nat.mul_succ]
    split <;> omega
/-- what NIGHT has counted -/
def NG (R Y : Nat → Nat) (g : Gi) : Prop := (∀ s, s < 451 → g 80 s = nI (cW (oY Y) (wR R) (R 5) s)) ∧ g 79 4 = nI (R 0) - nI (ldF (oY Y) (wR R) (R 5)) ∧ g 79 0 = nI (setF R Y)
section
variable {n p b d : Nat} {R Y : Nat → Nat} {r : Rr} {g : Gi} {j : Gl} {K : Int32 → Rr → Gi → Gl → Prop} {Kv : Rr → Gi → Gl → Prop} {x x1 x2 : Int32} {Q : QT}
theorem X_waysOf {F : Nat → Nat} (hF : ∀ s, s < 451 → g 80 s = nI (F s)) (h0 : ∀ s, 451 ≤ s → F s = 0) {s : Nat} (hs : s < 2 ^ 31) (h : K (nI (F s)) r g j) : Cm d 11 [.ref 79, .int (nI s)] r g j (rkI K) := by
  refine vX2_waysOf_0 ⟨fun a => absurd a (nI_pos hs), fun _ => ⟨fun a => ?_, fun a => ?_⟩⟩
  · have := lt_n hs (by decide) a
    refine IX_l this ?_
    rw [hF s this]; exact h
  · have : 451 ≤ s := by
      rcases Nat.lt_or_ge s 451 with z | z
      · exact absurd (nI_lt z (by decide)) a
      · exact z
    rw [h0 s this] at h; exact h
theorem X_waysOf_neg (hx : x < 0) (h : K (nI 0) r g j) : Cm d 11 [.ref 79, .int x] r g j (rkI K) := vX2_waysOf_0 ⟨fun _ => h, fun a => absurd hx a⟩
theorem X_add_loop {F : Nat → Nat} {wt top : Nat} (hw : 1 ≤ wt) (ht : top ≤ 450) : ∀ q g, wt + q ≤ top + 1 → (∀ k, k < 451 → g 80 k = nI (if wt + q ≤ k ∧ k ≤ top then F k + F (k - wt) else F k)) → (∀ g', (∀ a k, a ≠ 80 → g' a k = g a k) → (∀ k, k < 451 → g' 80 k = nI (if wt ≤ k ∧ k ≤ top then F k + F (k - wt) else F k)) → Kv r g' j) → G (d + 1) 10 12 [(0, .ref 79), (1, .int (nI wt)), (3, .int (nI (wt - 1 + q)))] [] r g j (rkV Kv) := by
  intro q
  induction q with
  | zero =>
    intro g hq hg h
    exact vX2_addCrate_12 ⟨fun _ => h g (fun _ _ _ => rfl) hg, fun a => absurd (nI_lt (by omega) (by omega)) a⟩
  | succ q ih =>
    intro g hq hg h
    refine vX2_addCrate_12 ⟨fun a => absurd a (nI_nlt (by omega) (by omega)), fun _ => ⟨fun a => absurd a (nI_pos (by omega)), fun _ => IX_l (by omega) ?_⟩⟩
    rw [pk_sub (by omega), show wt - 1 + (q + 1) - wt = q by omega]
    refine X_waysOf (F := fun k => if k < 451 then (if wt + (q + 1) ≤ k ∧ k ≤ top then F k + F (k - wt) else F k) else 0) (fun s hs => ?_) (fun s hs => ?_) (by omega) (IX_l (by omega) ?_)
    · show _ = nI (if s < 451 then _ else 0)
      rw [if_pos hs]; exact hg s hs
    · show (if s < 451 then _ else 0) = 0
      rw [if_neg (by omega)]
    · rw [show wt - 1 + (q + 1) = wt + q by omega, show wt + q = (wt - 1 + q) + 1 by omega, pk_m1]
      have e1 : g 80 (wt - 1 + q + 1) = nI (F (wt + q)) := by
        rw [hg _ (by omega), if_neg (by omega)]; congr 2; omega
      have e2 : (if q < 451 then (if wt + (q + 1) ≤ q ∧ q ≤ top then F q + F (q - wt) else F q) else 0) = F q := by rw [if_pos (by omega), if_neg (by omega)]
      rw [e1, e2, nI_add]
      refine ih _ (by omega) (fun k hk => ?_) (fun g' h1 h2 => h g' (fun a k ha => by rw [h1 a k ha, uI_o ha]) h2)
      by_cases e : k = wt - 1 + q + 1
      · subst e
        rw [uI_s, if_pos (by omega)]
        congr 2
        · congr 1; omega
        · congr 1; omega
      · rw [uI_n e, hg k hk]
        congr 1
        by_cases a : wt + (q + 1) ≤ k ∧ k ≤ top
        · rw [if_pos a, if_pos (by omega)]
        · rw [if_neg a, if_neg (by omega)]
theorem X_addCrate {F : Nat → Nat} {wt top : Nat} (hw : 1 ≤ wt) (hwt : wt ≤ top) (ht : top ≤ 450) (hg : ∀ k, k < 451 → g 80 k = nI (F k)) (h : ∀ g', (∀ a k, a ≠ 80 → g' a k = g a k) → (∀ k, k < 451 → g' 80 k = nI (if wt ≤ k ∧ k ≤ top then F k + F (k - wt) else F k)) → Kv r g' j) : Cm (d + 1) 10 [.ref 79, .int (nI wt), .int (nI top)] r g j (rkV Kv) := by
  refine vX2_addCrate_0 ?_
  rw [pk_sub (by decide), if_neg (nI_nlt (by omega) (by omega))]
  have := X_add_loop (F := F) (j := j) (r := r) (d := d) (Kv := Kv) hw ht (top + 1 - wt) g (by omega) (fun k hk => by rw [if_neg (by omega)]; exact hg k hk) h
  rw [show wt - 1 + (top + 1 - wt) = top by omega] at this
  exact this
theorem opx_b (k : Nat) : opx k < 2 ^ 31 ∧ (opx k = 2 ↔ k = 1) ∧ (opx k = 0 ↔ k = 0) := by
  match k with
  | 0 => exact ⟨by decide, by decide, by decide⟩
  | 1 => exact ⟨by decide, by decide, by decide⟩
  | k + 2 =>
    have : opx (k + 2) = 1 := rfl
    rw [this]
    exact ⟨by decide, ⟨fun h => by omega, fun h => by omega⟩, ⟨fun h => by omega, fun h => by omega⟩⟩
theorem opx_2 {k : Nat} : nI (opx k) = nI 2 ↔ k = 1 := by
  rw [nI_eq (opx_b k).1 (by decide)]; exact (opx_b k).2.1
theorem opx_0 {k : Nat} : nI (opx k) = 0 ↔ k = 0 := by
  rw [nI_z (opx_b k).1]; exact (opx_b k).2.2
theorem wR_le (hR : RO b R) : ∀ c, c < R 5 → 1 ≤ wR R c ∧ wR R c ≤ 30 := fun c hc => by
  have := hR.2.2.2.2.1 c hc
  exact ⟨this.2.2.2.2.1, this.2.2.2.2.2.1⟩
theorem tot_450 (hR : RO b R) (c : Nat) (hc : c ≤ R 5) : tot (oY Y) (wR R) c ≤ 450 := by
  have := tot_le (o := oY Y) (w := wR R) (N := 30) c (fun k hk => (wR_le hR k (by omega)).2)
  have := hR.2.2.1.2.2.2.2.2.1
  omega
theorem ld_900 (hR : RO b R) (c : Nat) (hc : c ≤ R 5) : ldF (oY Y) (wR R) c ≤ 900 := by
  have := ldF_le (o := oY Y) (w := wR R) (N := 30) c (fun k hk => (wR_le hR k (by omega)).2)
  have := hR.2.2.1.2.2.2.2.2.1
  omega
theorem cW_450 (hR : RO b R) {c s : Nat} (hc : c ≤ R 5) (hs : 451 ≤ s) : cW (oY Y) (wR R) c s = 0 := cW_far _ _ (by have := tot_450 (Y := Y) hR c hc; omega)
/-- waysOf at the goal -/
theorem X_ways_goal (hR : RO b R) (hg : ∀ s, s < 451 → g 80 s = nI (cW (oY Y) (wR R) (R 5) s)) (h : K (nI (setF R Y)) r g j) : Cm d 11 [.ref 79, .int (nI (R 0) - nI (ldF (oY Y) (wR R) (R 5)))] r g j (rkI K) := by
  have hl := ld_900 (Y := Y) hR (R 5) (Nat.le_refl _)
  have h0 := hR.2.2.1.1
  unfold setF at h
  by_cases a : ldF (oY Y) (wR R) (R 5) ≤ R 0
  · rw [if_pos a] at h
    rw [pk_sub a]
    exact X_waysOf hg (fun s hs => cW_450 hR (Nat.le_refl _) hs) (by omega) h
  · rw [if_neg a] at h
    exact X_waysOf_neg (pk_sneg (by omega) (by omega)) h
theorem X_count_loop (hV : Vw n p b R Y r g) : ∀ q c g', c + q = R 5 → Ag g g' → (∀ s, s < 451 → g' 80 s = nI (cW (oY Y) (wR R) c s)) → g' 79 4 = nI (R 0) - nI (ldF (oY Y) (wR R) c) → (∀ g', Ag g g' → NG R Y g' → Kv r g' j) →
    G (d + 2) 9 44 [(0, .ref 79), (1, .ref p), (2, .ref 62), (3, .int (nI (tot (oY Y) (wR R) c))), (4, .int (nI c))] [] r g' j (rkV Kv) := by
  have h5 := hV.b5
  intro q
  induction q with
  | zero =>
    intro c g' hc ha h80 h4 h
    have hV' := hV.ag ha
    obtain rfl : c = R 5 := by omega
    refine vX2_count_44 (OB_i (SH_p hV.hp) ⟨fun _ => ?_, fun a => absurd (by rw [hV'.px.1.2.2.2.2.2.1]; exact nI_le (by omega) (by omega)) a⟩)
    rw [h4]
    refine X_ways_goal hV.ro h80 (h _ (ha.u rfl) ⟨fun s hs => ?_, ?_, uI_s⟩)
    · rw [uI_o (by decide)]; exact h80 s hs
    · rw [uI_n (by decide)]; exact h4
  | succ q ih =>
    intro c g' hc ha h80 h4 h
    have hV' := hV.ag ha
    have hw := wR_le hV.ro c (by omega)
    have ht := tot_450 (Y := Y) hV.ro (c + 1) (by omega)
    have e24 : g' (p + 13 + c) 4 = nI (wR R c) := (hV'.px.2.2.1 c (by omega)).2.2.2.1
    have e68 : g' 68 c = nI (opx (oY Y c)) := hV'.yx.2.2.2.1 c (by omega)
    have go : ∀ s0 : Int32, nI (R 0) - nI (ldF (oY Y) (wR R) c) - s0 = nI (R 0) - nI (ldF (oY Y) (wR R) (c + 1)) →
        G (d + 2) 9 90 [(0, .ref 79), (1, .ref p), (2, .ref 62), (3, .int (nI (tot (oY Y) (wR R) c))), (4, .int (nI c)), (5, .int (nI (wR R c)))] [.int s0, .int (nI (R 0) - nI (ldF (oY Y) (wR R) c)), .ref 79] r g' j (rkV Kv) := by
      intro s0 hs
      refine vX2_count_90 (IX_l (by omega) ?_)
      rw [e68, opx_0, hs, nI_add]
      refine ⟨fun e => X_addCrate (F := cW (oY Y) (wR R) c) hw.1 (by omega) ?_ (fun k hk => by rw [uI_o (by decide)]; exact h80 k hk) (fun g'' h1 h2 => vX2_count_116 ?_), fun e => vX2_count_116 ?_⟩
      · have : tot (oY Y) (wR R) (c + 1) = tot (oY Y) (wR R) c + (if oY Y c = 0 then wR R c else 0) := rfl
        rw [if_pos e] at this; omega
      · rw [nI_add]
        have e2 : tot (oY Y) (wR R) c + wR R c = tot (oY Y) (wR R) (c + 1) := by
          show _ = tot (oY Y) (wR R) c + (if oY Y c = 0 then wR R c else 0)
          rw [if_pos e]
        rw [e2]
        have ha2 : Ag g g'' := fun a k ex => by
          by_cases h80' : a = 80
          · subst h80'; cases ex
          · rw [h1 a k h80']; exact (ha.u (a := 79) (k := 4) rfl) a k ex
        refine ih (c + 1) g'' (by omega) ha2 (fun s hs => ?_) (by rw [h1 79 4 (by decide), uI_s]) h
        rw [h2 s hs]
        congr 1
        show _ = if oY Y c = 0 then cW (oY Y) (wR R) c s + (if wR R c ≤ s then cW (oY Y) (wR R) c (s - wR R c) else 0) else cW (oY Y) (wR R) c s
        rw [if_pos e]
        by_cases l1 : wR R c ≤ s
        · rw [if_pos l1]
          by_cases l2 : s ≤ tot (oY Y) (wR R) c + wR R c
          · rw [if_pos ⟨l1, l2⟩]
          · rw [if_neg (by omega), cW_far c (s - wR R c) (by omega), Nat.add_zero]
        · rw [if_neg l1, if_neg (by omega), Nat.add_zero]
      · rw [nI_add]
        have e2 : tot (oY Y) (wR R) c = tot (oY Y) (wR R) (c + 1) := by
          show _ = tot (oY Y) (wR R) c + (if oY Y c = 0 then wR R c else 0)
          rw [if_neg e, Nat.add_zero]
        rw [e2]
        refine ih (c + 1) _ (by omega) (ha.u rfl) (fun s hs => ?_) uI_s h
        rw [uI_o (by decide), h80 s hs]
        congr 1
        show _ = if oY Y c = 0 then cW (oY Y) (wR R) c s + (if wR R c ≤ s then cW (oY Y) (wR R) c (s - wR R c) else 0) else cW (oY Y) (wR R) c s
        rw [if_neg e]
    refine vX2_count_44 (OB_i (SH_p hV.hp) ⟨fun a => absurd a (by rw [hV'.px.1.2.2.2.2.2.1]; exact nI_ge (by omega) (by omega)), fun _ => crate_f hV.hp rfl (by omega) (IX_l (by omega) ?_)⟩)
    rw [e24, h4, e68, opx_2]
    refine ⟨fun e => go _ ?_, fun e => go _ ?_⟩
    · rw [pk_mul, sub3]
      show _ = nI (R 0) - nI (ldF (oY Y) (wR R) c + (if oY Y c = 1 then 2 * wR R c else wR R c))
      rw [if_pos e]
    · rw [sub3]
      show _ = nI (R 0) - nI (ldF (oY Y) (wR R) c + (if oY Y c = 1 then 2 * wR R c else wR R c))
      rw [if_neg e]
theorem X_zero_loop (hV : Vw n p b R Y r g) : ∀ q i g', i + q = 451 → Ag g g' → (∀ s, s < i → g' 80 s = nI 0) → g' 79 4 = nI (R 0) → (∀ g', Ag g g' → NG R Y g' → Kv r g' j) → G (d + 2) 9 10 [(0, .ref 79), (1, .ref p), (2, .ref 62), (3, .int (nI i))] [] r g' j (rkV Kv) := by
  intro q
  induction q with
  | zero =>
    intro i g' hi ha h80 h4 h
    refine vX2_count_10 ⟨fun _ => IX_l (by decide) ?_, fun a => absurd (nI_le (by omega) (by omega)) a⟩
    refine X_count_loop hV (R 5) 0 _ (by omega) (ha.u rfl) (fun s hs => ?_) ?_ h
    · show _ = nI (if s = 0 then 1 else 0)
      by_cases e : s = 0
      · subst e; rw [uI_s]; rfl
      · rw [uI_n e, h80 s (by omega), if_neg e]
    · rw [uI_o (by decide), h4]
      show nI (R 0) = nI (R 0) - nI 0
      rw [n00]; simp
  | succ q ih =>
    intro i g' hi ha h80 h4 h
    refine vX2_count_10 ⟨fun a => absurd a (nI_ge (by omega) (by omega)), fun _ => IX_l (by omega) ?_⟩
    rw [nI_add]
    refine ih (i + 1) _ (by omega) (ha.u rfl) (fun s hs => ?_) (by rw [uI_o (by decide)]; exact h4) h
    by_cases e : s = i
    · subst e; exact uI_s
    · rw [uI_n e]; exact h80 s (by omega)
theorem X_count (hV : Vw n p b R Y r g) (h : ∀ g', Ag g g' → NG R Y g' → Kv r g' j) : Cm (d + 2) 9 [.ref 79, .ref p, .ref 62] r g j (rkV Kv) :=
  vX2_count_0 (OB_i (SH_p hV.hp) (X_zero_loop hV 451 0 _ (by omega) (Ag.rf.u rfl) (fun s hs => by omega) (by rw [uI_s]; exact hV.px.1.1) h))
/-- sets with a crate, by changing signs -/
theorem X_alt_loop (hV : Vw n p b R Y r g) (hN : NG R Y g) {c : Nat} (hc : c < R 5) (ho : oY Y c = 0) : ∀ N s, s ≤ N → s ≤ 999 → ∀ x5 x6 : Int32, K (x5 + x6 * nI (wB (oY Y) (wR R) c (R 5) s)) r g j → G (d + 1) 12 58 [(0, .ref 79), (4, .int (nI (wR R c))), (5, .int x5), (6, .int x6), (7, .int (nI s - nI (wR R c)))] [] r g j (rkI K) := by
  have hw := wR_le hV.ro c hc
  have low : ∀ s, s < wR R c → ∀ x5 x6 : Int32, K (x5 + x6 * nI (wB (oY Y) (wR R) c (R 5) s)) r g j → G (d + 1) 12 58 [(0, .ref 79), (4, .int (nI (wR R c))), (5, .int x5), (6, .int x6), (7, .int (nI s - nI (wR R c)))] [] r g j (rkI K) := by
    intro s hs x5 x6 h
    have hneg := pk_sneg (a := s) (b := wR R c) (by omega) hs
    rw [wB_low ho _ _ hs, n00, Int32.mul_zero, Int32.add_zero] at h
    exact vX2_setsWith_58 ⟨fun _ => h, fun a => absurd hneg a⟩
  intro N
  induction N with
  | zero =>
    intro s h1 h2 x5 x6 h
    exact low s (by omega) x5 x6 h
  | succ N ih =>
    intro s h1 h2 x5 x6 h
    rcases Nat.lt_or_ge s (wR R c) with hs | hs
    · exact low s hs x5 x6 h
    · refine vX2_setsWith_58 ⟨fun a => absurd a (by rw [pk_sub hs]; exact nI_pos (by omega)), fun _ => ?_⟩
      rw [pk_sub hs]
      refine X_waysOf hN.1 (fun s hs => cW_450 hV.ro (Nat.le_refl _) hs) (by omega) ?_
      refine ih (s - wR R c) (by omega) (by omega) _ _ ?_
      have e : x5 + x6 * nI (cW (oY Y) (wR R) (R 5) (s - wR R c)) + -x6 * nI (wB (oY Y) (wR R) c (R 5) (s - wR R c)) = x5 + x6 * nI (wB (oY Y) (wR R) c (R 5) s) := by
        rw [← wB_alt ho (R 5) s hc hs, ← nI_add, Int32.mul_add, Int32.neg_mul]
        rw [Int32.add_assoc, Int32.add_assoc, Int32.add_right_neg, Int32.add_zero]
      rw [e]; exact h
theorem X_setsWith (hV : Vw n p b R Y r g) (hN : NG R Y g) {c : Nat} (hc : c < R 5) (h : K (nI (wthF R Y c)) r g j) : Cm (d + 1) 12 [.ref 79, .ref p, .ref 62, .int (nI c)] r g j (rkI K) := by
  have h5 := hV.b5
  have hw := wR_le hV.ro c hc
  have hl := ld_900 (Y := Y) hV.ro (R 5) (Nat.le_refl _)
  have h0 := hV.ro.2.2.1.1
  have e24 : g (p + 13 + c) 4 = nI (wR R c) := (hV.px.2.2.1 c hc).2.2.2.1
  have e68 : g 68 c = nI (opx (oY Y c)) := hV.yx.2.2.2.1 c (by omega)
  refine vX2_setsWith_0 (IX_l (by omega) ?_)
  rw [e68, opx_0]
  refine ⟨fun e => crate_f hV.hp rfl (by omega) ?_, fun e => IX_l (by omega) ?_⟩
  · rw [e24]
    have em : (if nI 1 < nI (wR R c) then nI (wR R c) else nI 1) = nI (wR R c) := by
      by_cases z : 1 < wR R c
      · rw [if_pos (nI_lt z (by omega))]
      · rw [if_neg (nI_nlt (by omega) (by omega)), show wR R c = 1 by omega]
    rw [em, hN.2.1]
    unfold wthF at h
    by_cases a : ldF (oY Y) (wR R) (R 5) ≤ R 0
    · rw [if_pos a] at h
      rw [pk_sub a]
      refine X_alt_loop hV hN hc e _ _ (Nat.le_refl _) (by omega) _ _ ?_
      have : nI 0 + nI 1 * nI (wB (oY Y) (wR R) c (R 5) (R 0 - ldF (oY Y) (wR R) (R 5))) = nI (wB (oY Y) (wR R) c (R 5) (R 0 - ldF (oY Y) (wR R) (R 5))) := by rw [pk_mul, nI_add]; congr 1; omega
      rw [this]; exact h
    · rw [if_neg a] at h
      rw [sub3]
      exact vX2_setsWith_58 ⟨fun _ => h, fun z => absurd (pk_sneg (by omega) (by omega)) z⟩
  · rw [e68, opx_2]
    refine ⟨fun e1 => ?_, fun e1 => ?_⟩
    · have : wthF R Y c = setF R Y := by
        unfold wthF setF
        rw [wB_night e1 (R 5) _ hc]
      rw [this] at h
      rw [hN.2.2]; exact h
    · have : wthF R Y c = 0 := by
        unfold wthF
        rw [wB_day e e1]; simp
      rw [this] at h
      exact h
end
