/-! NIGHT: the reference counts set by set; fits, could, surely, ask, askLeaves -/
/-- what laySets may change -/
def LsS (g g' : Gi) : Prop := ∀ a k, a ≠ 275 → ¬ (a = 263 ∧ k = 30) → g' a k = g a k
theorem LsS.rf {g : Gi} : LsS g g := fun _ _ _ _ => rfl
theorem LsS.tr {g g' g'' : Gi} (h : LsS g g') (h' : LsS g' g'') : LsS g g'' := fun a k x y => (h' a k x y).trans (h a k x y)
theorem LsS.u5 {g g' : Gi} {k : Nat} {v : Int32} (h : LsS g g') : LsS g (uI g' 275 k v) := fun a k' x y => by rw [uI_o x]; exact h a k' x y
theorem LsS.u3 {g g' : Gi} {v : Int32} (h : LsS g g') : LsS g (uI g' 263 30 v) := fun a k' x y => by rw [uI_d y]; exact h a k' x y
theorem LsS.ag {g g' : Gi} (h : LsS g g') : Ag g g' := fun a k ex => h a k (fun e => by subst e; cases ex) (fun e => by obtain ⟨rfl, rfl⟩ := e; cases ex)
/-- a set fits, in the reference's words -/
def fZ (R Y : Nat → Nat) (z : Nat) : Bool := okZ (oY Y) z (R 5) && decide (wAll (wR R) (R 5) + swF (wR R) z (R 5) = R 0)
theorem fZ_v (R Y : Nat → Nat) (z : Nat) : fZ R Y z = if ldF (oY Y) (wR R) (R 5) ≤ R 0 then vZ (oY Y) (wR R) (R 5) (R 0 - ldF (oY Y) (wR R) (R 5)) z else false := by
  unfold fZ vZ
  cases hk : okZ (oY Y) z (R 5) with
  | false => simp
  | true =>
    have := ok_straw (w := wR R) (R 5) hk
    rw [this, Bool.true_and, Bool.true_and]
    by_cases a : ldF (oY Y) (wR R) (R 5) ≤ R 0
    · rw [if_pos a]
      by_cases e : ldF (oY Y) (wR R) (R 5) + tzZ (oY Y) (wR R) z (R 5) = R 0
      · rw [decide_eq_true e, decide_eq_true (by omega)]
      · rw [decide_eq_false e, decide_eq_false (by omega)]
    · rw [if_neg a, decide_eq_false (by omega)]
theorem fZ_set (R Y : Nat → Nat) : cntP (fZ R Y) (2 ^ R 5) = setF R Y := by
  unfold setF
  by_cases a : ldF (oY Y) (wR R) (R 5) ≤ R 0
  · rw [if_pos a, ← cnt_cW]
    exact cntP_eq _ (fun z _ => by rw [fZ_v, if_pos a])
  · rw [if_neg a]
    exact cntP_0 _ (fun z _ => by rw [fZ_v, if_neg a])
theorem fZ_with {R Y : Nat → Nat} {c : Nat} (hc : c < R 5) : cntP (fun z => fZ R Y z && z.testBit c) (2 ^ R 5) = wthF R Y c := by
  unfold wthF
  by_cases a : ldF (oY Y) (wR R) (R 5) ≤ R 0
  · rw [if_pos a, ← cnt_wB c _ _ hc]
    exact cntP_eq _ (fun z _ => by rw [fZ_v, if_pos a])
  · rw [if_neg a]
    exact cntP_0 _ (fun z _ => by rw [fZ_v, if_neg a, Bool.false_and])
theorem wAll_le {w : Nat → Nat} {N : Nat} : ∀ m, (∀ c, c < m → w c ≤ N) → wAll w m ≤ N * m := by
  intro m
  induction m with
  | zero => intro _; exact Nat.zero_le _
  | succ m ih =>
    intro h
    have i := ih (fun c hc => h c (by omega))
    have := h m (by omega)
    show wAll w m + w m ≤ _
    rw [Nat.mul_succ]
    omega
theorem swF_le {w : Nat → Nat} {z : Nat} : ∀ m, swF w z m ≤ wAll w m := by
  intro m
  induction m with
  | zero => exact Nat.le_refl _
  | succ m ih =>
    show swF w z m + (if z.testBit m = true then w m else 0) ≤ wAll w m + w m
    split <;> omega
/-- what the reference has counted -/
def MG (R Y : Nat → Nat) (g : Gi) : Prop := g 263 30 = nI (setF R Y) ∧ ∀ c, c < R 5 → g 275 c = nI (wthF R Y c)
section
variable {n p b d : Nat} {R Y : Nat → Nat} {r : Rr} {g : Gi} {j : Gl} {K : Int32 → Rr → Gi → Gl → Prop} {Kv : Rr → Gi → Gl → Prop} {x x1 x2 : Int32} {Q : QT}
theorem M_hasBit {z c : Nat} (hz : z < 2 ^ 31) (hc : c < 16) (h : K (nI (if z.testBit c = true then 1 else 0)) r g j) : Cm d 145 [.int (nI z), .int (nI c)] r g j (rkI K) := by
  refine vX10_hasBit_0 ?_
  rw [bit_n hz hc]
  by_cases e : z.testBit c = true
  · rw [if_pos e] at h ⊢
    exact ⟨fun _ => ⟨bo1, h⟩, fun a => absurd rfl a⟩
  · rw [if_neg e] at h ⊢
    exact ⟨fun a => absurd a (by decide +kernel), fun _ => ⟨bo0, h⟩⟩
/-- the state while sets are tried: before set z -/
def LZ (R Y : Nat → Nat) (z : Nat) (g : Gi) : Prop := g 263 30 = nI (cntP (fZ R Y) z) ∧ ∀ c, c < R 5 → g 275 c = nI (cntP (fun q => fZ R Y q && q.testBit c) z)
theorem pw15 (h : R 5 ≤ 15) : 2 ^ R 5 ≤ 32768 := Nat.pow_le_pow_right (n := 2) (by decide) h
theorem M_bits_loop (hV : Vw n p b R Y r g) {z : Nat} (hz : z < 2 ^ R 5) {y1 y2 y3 : Int32} (hf : fZ R Y z = true) : ∀ q c g', c + q = R 5 → LsS g g' → g' 263 30 = nI (cntP (fZ R Y) (z + 1)) → (∀ k, k < R 5 → g' 275 k = nI (cntP (fun q => fZ R Y q && q.testBit k) (if k < c then z + 1 else z))) →
    (∀ g', LsS g g' → LZ R Y (z + 1) g' → G (d + 1) 217 248 [(0, .ref 263), (1, .int y1), (2, .int y2), (3, .int y3), (4, .int (nI z))] [] r g' j (rkV Kv)) →
    G (d + 1) 217 214 [(0, .ref 263), (1, .int y1), (2, .int y2), (3, .int y3), (4, .int (nI z)), (6, .int (nI c))] [] r g' j (rkV Kv) := by
  have h5 := hV.b5
  have hp := pw15 h5
  intro q
  induction q with
  | zero =>
    intro c g' hc ha h30 hk h
    have hV' := hV.ag ha.ag
    refine vX10_laySets_214 (IX_l (by decide) ⟨fun _ => h g' ha ⟨h30, fun k hk' => ?_⟩, fun a => absurd (by rw [hV'.mr (by decide)]; exact nI_le (by omega) (by omega)) a⟩)
    have := hk k hk'
    rw [if_pos (by omega)] at this; exact this
  | succ q ih =>
    intro c g' hc ha h30 hk h
    have hV' := hV.ag ha.ag
    refine vX10_laySets_214 (IX_l (by decide) ⟨fun a => absurd a (by rw [hV'.mr (by decide)]; exact nI_ge (by omega) (by omega)), fun _ => IX_l (by omega) (IX_l (by omega) ?_)⟩)
    rw [bit_n (by omega) (by omega), hk c (by omega), if_neg (by omega), nI_add, nI_add]
    refine ih (c + 1) _ (by omega) ha.u5 (by rw [uI_o (by decide)]; exact h30) (fun k hk' => ?_) h
    by_cases e : k = c
    · subst e
      rw [uI_s, if_pos (show k < k + 1 by omega)]
      congr 1
      show _ = cntP _ z + (if (fZ R Y z && z.testBit k) = true then 1 else 0)
      rw [hf, Bool.true_and]
    · rw [uI_n e, hk k hk']
      congr 2
      by_cases l : k < c
      · rw [if_pos l, if_pos (by omega)]
      · rw [if_neg l, if_neg (by omega)]
theorem M_straw_loop (hV : Vw n p b R Y r g) {z : Nat} (hz : z < 2 ^ R 5) (hk : okZ (oY Y) z (R 5) = true) {y1 y2 y3 : Int32} (hL : LZ R Y z g) (h : ∀ g', LsS g g' → LZ R Y (z + 1) g' → G (d + 1) 217 248 [(0, .ref 263), (1, .int y1), (2, .int y2), (3, .int y3), (4, .int (nI z))] [] r g' j (rkV Kv)) : ∀ q c, c + q = R 5 →
    G (d + 1) 217 144 [(0, .ref 263), (1, .int y1), (2, .int y2), (3, .int y3), (4, .int (nI z)), (5, .int (nI (wAll (wR R) (R 5) + swF (wR R) z c))), (6, .int (nI c))] [] r g j (rkV Kv) := by
  have h5 := hV.b5
  have hp := pw15 h5
  have hw := wAll_le (w := wR R) (N := 30) (R 5) (fun c hc => (wR_le hV.ro c hc).2)
  intro q
  induction q with
  | zero =>
    intro c hc
    obtain rfl : c = R 5 := by omega
    have hs := swF_le (w := wR R) (z := z) (R 5)
    have h0 := hV.ro.2.2.1.1
    refine vX10_laySets_144 (IX_l (by decide) ⟨fun _ => IX_l (by decide) ?_, fun a => absurd (by rw [hV.mr (by decide)]; exact nI_le (by omega) (by omega)) a⟩)
    rw [hV.mr (by decide), nI_eq (by omega) (by omega)]
    refine ⟨fun e => ?_, fun e => h g LsS.rf ?_⟩
    · have hf : fZ R Y z = true := by unfold fZ; rw [hk, decide_eq_true e]; rfl
      refine M_bits_loop hV hz hf (R 5) 0 _ (by omega) LsS.rf.u3 ?_ (fun k hk' => ?_) h
      · rw [uI_s, hL.1, nI_add]
        congr 1
        show _ = cntP _ z + (if fZ R Y z = true then 1 else 0)
        rw [if_pos hf]
      · rw [uI_o (by decide), if_neg (by omega)]; exact hL.2 k hk'
    · have hf : fZ R Y z = false := by unfold fZ; rw [decide_eq_false e, Bool.and_false]
      refine ⟨?_, fun c hc => ?_⟩
      · rw [hL.1]; congr 1
        show _ = cntP _ z + (if fZ R Y z = true then 1 else 0)
        rw [hf]; rfl
      · rw [hL.2 c hc]; congr 1
        show _ = cntP _ z + (if (fZ R Y z && z.testBit c) = true then 1 else 0)
        rw [hf]; rfl
  | succ q ih =>
    intro c hc
    have hs := swF_le (w := wR R) (z := z) c
    refine vX10_laySets_144 (IX_l (by decide) ⟨fun a => absurd a (by rw [hV.mr (by decide)]; exact nI_ge (by omega) (by omega)), fun _ => M_hasBit (by omega) (by omega) ?_⟩)
    have i := ih (c + 1) (by omega)
    have e : swF (wR R) z (c + 1) = swF (wR R) z c + (if z.testBit c = true then wR R c else 0) := rfl
    rw [e] at i
    by_cases hb : z.testBit c = true
    · rw [if_pos hb] at i ⊢
      refine ⟨fun a => absurd a n10, fun _ => M_ofCrate hV (by omega) (by omega) (vX10_laySets_178 ?_)⟩
      rw [nI_add, nI_add, Nat.add_assoc, show 21 + 5 * c + 3 = 24 + 5 * c by omega]
      exact i
    · rw [if_neg hb] at i ⊢
      refine ⟨fun _ => vX10_laySets_178 ?_, fun a => absurd n00 a⟩
      rw [nI_add, nI_add, Nat.add_assoc]
      exact i
theorem M_set_loop (hV : Vw n p b R Y r g) (h : ∀ g', LsS g g' → MG R Y g' → Kv r g' j) : ∀ q z g', z + q = 2 ^ R 5 → LsS g g' → LZ R Y z g' →
    G (d + 1) 217 114 [(0, .ref 263), (1, .int (nI (opB (oY Y) (fun k => k = 1) (R 5)))), (2, .int (nI (opB (oY Y) (fun k => 0 < k) (R 5)))), (3, .int (nI (wAll (wR R) (R 5)))), (4, .int (nI z))] [] r g' j (rkV Kv) := by
  have h5 := hV.b5
  have hp := pw15 h5
  intro q
  induction q with
  | zero =>
    intro z g' hz ha hL
    have hV' := hV.ag ha.ag
    obtain rfl : z = 2 ^ R 5 := by omega
    refine vX10_laySets_114 (IX_l (by decide) ?_)
    rw [hV'.mr (by decide), shl_n _ (by omega)]
    refine ⟨fun _ => h g' ha ⟨by rw [hL.1, fZ_set], fun c hc => by rw [hL.2 c hc, fZ_with hc]⟩, fun a => absurd (nI_le (by omega) (by omega)) a⟩
  | succ q ih =>
    intro z g' hz ha hL
    have hV' := hV.ag ha.ag
    refine vX10_laySets_114 (IX_l (by decide) ?_)
    rw [hV'.mr (by decide), shl_n _ (by omega)]
    have l1 := opB_lt (o := oY Y) (fun k => k = 1) (R 5)
    have l2 : z &&& opB (oY Y) (fun k => 0 < k) (R 5) ≤ z := Nat.and_le_left
    have go : ∀ g'', LsS g g'' → LZ R Y (z + 1) g'' → G (d + 1) 217 248 [(0, .ref 263), (1, .int (nI (opB (oY Y) (fun k => k = 1) (R 5)))), (2, .int (nI (opB (oY Y) (fun k => 0 < k) (R 5)))), (3, .int (nI (wAll (wR R) (R 5)))), (4, .int (nI z))] [] r g'' j (rkV Kv) := fun g'' h1 h2 => vX10_laySets_248 (by rw [nI_add]; exact ih (z + 1) g'' (by omega) h1 h2)
    refine ⟨fun a => absurd a (nI_ge (by omega) (by omega)), fun _ => ?_⟩
    rw [and_n, nI_eq (by omega) (by omega), mask_ok (by omega)]
    refine ⟨fun hk => ?_, fun hk => go g' ha ?_⟩
    · exact M_straw_loop hV' (by omega) hk hL (fun g'' h1 h2 => go g'' (ha.tr h1) h2) (R 5) 0 (by omega)
    · have hf : fZ R Y z = false := by
        unfold fZ
        cases e : okZ (oY Y) z (R 5) with
        | true => exact absurd e hk
        | false => rfl
      refine ⟨?_, fun c hc => ?_⟩
      · rw [hL.1]; congr 1
        show _ = cntP _ z + (if fZ R Y z = true then 1 else 0)
        rw [hf]; rfl
      · rw [hL.2 c hc]; congr 1
        show _ = cntP _ z + (if (fZ R Y z && z.testBit c) = true then 1 else 0)
        rw [hf]; rfl
theorem M_mask_loop (hV : Vw n p b R Y r g) (hL : LZ R Y 0 g) (h : ∀ g', LsS g g' → MG R Y g' → Kv r g' j) : ∀ q c, c + q = R 5 →
    G (d + 1) 217 35 [(0, .ref 263), (1, .int (nI (opB (oY Y) (fun k => k = 1) c))), (2, .int (nI (opB (oY Y) (fun k => 0 < k) c))), (3, .int (nI (wAll (wR R) c))), (4, .int (nI c))] [] r g j (rkV Kv) := by
  have h5 := hV.b5
  have hp := pw15 h5
  intro q
  induction q with
  | zero =>
    intro c hc
    obtain rfl : c = R 5 := by omega
    exact vX10_laySets_35 (IX_l (by decide) ⟨fun _ => M_set_loop hV h (2 ^ R 5) 0 g (by omega) LsS.rf hL, fun a => absurd (by rw [hV.mr (by decide)]; exact nI_le (by omega) (by omega)) a⟩)
  | succ q ih =>
    intro c hc
    have hy := hV.yo.2.2.2.2.2.2.2.2.1 c (by omega)
    have e68 : g 268 (60 + c) = nI (oY Y c) := hV.ms (by omega)
    have i := ih (c + 1) (by omega)
    have ly : oY Y c ≤ 2 := hy.1
    have fin : ∀ s0 : Nat, s0 = (if 0 < oY Y c then 2 ^ c else 0) → G (d + 1) 217 93 [(0, .ref 263), (1, .int (nI (opB (oY Y) (fun k => k = 1) (c + 1)))), (3, .int (nI (wAll (wR R) c))), (4, .int (nI c))] [.int (nI s0), .int (nI (opB (oY Y) (fun k => 0 < k) c))] r g j (rkV Kv) := by
      intro s0 hs
      refine vX10_laySets_93 (M_ofCrate hV (by omega) (by omega) ?_)
      rw [or_n, nI_add, nI_add, show 21 + 5 * c + 3 = 24 + 5 * c by omega, hs]
      exact i
    have mid : ∀ s0 : Nat, s0 = (if oY Y c = 1 then 2 ^ c else 0) → G (d + 1) 217 69 [(0, .ref 263), (2, .int (nI (opB (oY Y) (fun k => 0 < k) c))), (3, .int (nI (wAll (wR R) c))), (4, .int (nI c))] [.int (nI s0), .int (nI (opB (oY Y) (fun k => k = 1) c))] r g j (rkV Kv) := by
      intro s0 hs
      refine vX10_laySets_69 (IX_e (q := 60 + c) (nI_add 60 c) (by omega) ?_)
      have e1 : nI (opB (oY Y) (fun k => k = 1) c) ||| nI s0 = nI (opB (oY Y) (fun k => k = 1) (c + 1)) := by rw [or_n, hs]; rfl
      rw [e68, e1, shl_n _ (by omega)]
      refine ⟨fun a => fin 0 ?_, fun a => fin _ ?_⟩
      · rw [if_neg]
        intro z; exact nI_nle z (by omega) a
      · rw [if_pos]
        rcases Nat.eq_zero_or_pos (oY Y c) with z | z
        · exact absurd (by rw [z, n00]; exact Int32.le_refl _) a
        · exact z
    refine vX10_laySets_35 (IX_l (by decide) ⟨fun a => absurd a (by rw [hV.mr (by decide)]; exact nI_ge (by omega) (by omega)), fun _ => IX_e (q := 60 + c) (nI_add 60 c) (by omega) ?_⟩)
    rw [e68, nI_eq (by omega) (by decide), shl_n _ (by omega)]
    exact ⟨fun a => mid _ (by rw [if_pos a]), fun a => mid 0 (by rw [if_neg a])⟩
theorem M_zero_loop (hV : Vw n p b R Y r g) (h : ∀ g', LsS g g' → MG R Y g' → Kv r g' j) : ∀ q i g', i + q = 15 → LsS g g' → g' 263 30 = nI 0 → (∀ c, c < i → g' 275 c = nI 0) → G (d + 1) 217 7 [(0, .ref 263), (1, .int (nI i))] [] r g' j (rkV Kv) := by
  intro q
  induction q with
  | zero =>
    intro i g' hi ha h30 hc
    have h5 := hV.b5
    refine vX10_laySets_7 ⟨fun _ => ?_, fun a => absurd (nI_le (by omega) (by omega)) a⟩
    exact M_mask_loop (hV.ag ha.ag) ⟨h30, fun c hc' => hc c (by omega)⟩ (fun g'' h1 h2 => h g'' (ha.tr h1) h2) (R 5) 0 (by omega)
  | succ q ih =>
    intro i g' hi ha h30 hc
    refine vX10_laySets_7 ⟨fun a => absurd a (nI_ge (by omega) (by omega)), fun _ => IX_l (by omega) ?_⟩
    rw [nI_add]
    refine ih (i + 1) _ (by omega) ha.u5 (by rw [uI_o (by decide)]; exact h30) (fun c hc' => ?_)
    by_cases e : c = i
    · subst e; exact uI_s
    · rw [uI_n e]; exact hc c (by omega)
theorem M_laySets (hV : Vw n p b R Y r g) (h : ∀ g', LsS g g' → MG R Y g' → Kv r g' j) : Cm (d + 1) 217 [.ref 263] r g j (rkV Kv) :=
  vX10_laySets_0 (M_zero_loop hV h 15 0 _ (by omega) LsS.rf.u3 uI_s (fun c hc => by omega))
theorem q_fits : PQ n p b R Y r (d + 3) 96 218 [] := by
  by_cases hb : b = 0
  · refine ⟨-1, nI 1, e1, fun g j hV => ?_, fun g j hV => ?_⟩
    · exact vX9_fits_0 ⟨fun _ => X_ref Ag.rf, fun a => absurd (hV.tx0 hb) a⟩
    · exact vX10_fits_0 (M_good fun g2 ha ht h7 => ⟨fun _ => M_no ha h7, fun a => absurd ((hV.ag ha).tm0 hb) a⟩)
  · refine ⟨nI (setF R Y), nI 0, e0, fun g j hV => ?_, fun g j hV => ?_⟩
    · refine vX9_fits_0 ⟨fun a => absurd a (hV.tx1 hb), fun _ => ⟨p, hV.rp, X_count hV fun g' ha hN => ?_⟩⟩
      rw [hN.2.2]; exact X_ans ha
    · refine vX10_fits_0 (M_good fun g2 ha ht h7 => ⟨fun a => absurd a ((hV.ag ha).tm1 hb), fun _ => M_laySets (hV.ag ha) fun g' hl hm => ?_⟩)
      exact ⟨hm.1, rfl, ha.tr hl.ag, by rw [hl 263 11 (by decide) (by decide)]; exact ht, by rw [hl 0 7 (by decide) (by decide)]; exact h7⟩
def bF (P : Nat → Bool) : Nat → Nat
  | 0 => 0
  | c + 1 => bF P c ||| (if P c = true then 2 ^ c else 0)
abbrev cuP (R Y : Nat → Nat) : Nat → Bool := fun c => decide (0 < wthF R Y c)
abbrev suP (R Y : Nat → Nat) : Nat → Bool := fun c => decide (0 < setF R Y ∧ wthF R Y c = setF R Y)
theorem X_could_loop (hV : Vw n p b R Y r g) (hN : NG R Y g) (h : Cm (d + 2) 122 [.ref 0, .int (nI (bF (cuP R Y) (R 5)))] r g j (rkI K)) : ∀ q c, c + q = R 5 → G (d + 3) 97 32 [(0, .ref 0), (1, .int (nI (bF (cuP R Y) c))), (2, .int (nI c))] [] r g j (rkI K) := by
  have h5 := hV.b5
  have hs := setF_le (Y := Y) h5
  intro q
  induction q with
  | zero =>
    intro c hc
    obtain rfl : c = R 5 := by omega
    exact vX9_could_32 ⟨p, hV.rp, OB_i (SH_p hV.hp) ⟨fun _ => h, fun a => absurd (by rw [hV.px.1.2.2.2.2.2.1]; exact nI_le (by omega) (by omega)) a⟩⟩
  | succ q ih =>
    intro c hc
    have i := ih (c + 1) (by omega)
    have e : bF (cuP R Y) (c + 1) = bF (cuP R Y) c ||| (if cuP R Y c = true then 2 ^ c else 0) := rfl
    have hw := wthF_le (Y := Y) (show c < R 5 by omega)
    refine vX9_could_32 ⟨p, hV.rp, OB_i (SH_p hV.hp) ⟨fun a => absurd a (by rw [hV.px.1.2.2.2.2.2.1]; exact nI_ge (by omega) (by omega)), fun _ => ⟨p, hV.rp, X_setsWith hV hN (by omega) ⟨fun a => vX9_could_68 ?_, fun a => vX9_could_68 ?_⟩⟩⟩⟩
    · have z : ¬ 0 < wthF R Y c := fun z => nI_nle z (by omega) a
      rw [e, if_neg (by simpa using z), Nat.or_zero] at i
      rw [nI_add]; exact i
    · have z : 0 < wthF R Y c := by
        rcases Nat.eq_zero_or_pos (wthF R Y c) with z | z
        · exact absurd (by rw [z, n00]; exact Int32.le_refl _) a
        · exact z
      rw [e, if_pos (by simpa using z)] at i
      rw [nI_add, shl_n _ (by omega), or_n]; exact i
theorem M_could_loop (hV : Vw n p b R Y r g) (hM : MG R Y g) (h : K (nI (bF (cuP R Y) (R 5))) r g j) : ∀ q c, c + q = R 5 → G (d + 1) 219 25 [(0, .ref 263), (1, .int (nI (bF (cuP R Y) c))), (2, .int (nI c))] [] r g j (rkI K) := by
  have h5 := hV.b5
  have hs := setF_le (Y := Y) h5
  intro q
  induction q with
  | zero =>
    intro c hc
    obtain rfl : c = R 5 := by omega
    exact vX10_could_25 (IX_l (by decide) ⟨fun _ => h, fun a => absurd (by rw [hV.mr (by decide)]; exact nI_le (by omega) (by omega)) a⟩)
  | succ q ih =>
    intro c hc
    have i := ih (c + 1) (by omega)
    have e : bF (cuP R Y) (c + 1) = bF (cuP R Y) c ||| (if cuP R Y c = true then 2 ^ c else 0) := rfl
    have hw := wthF_le (Y := Y) (show c < R 5 by omega)
    refine vX10_could_25 (IX_l (by decide) ⟨fun a => absurd a (by rw [hV.mr (by decide)]; exact nI_ge (by omega) (by omega)), fun _ => IX_l (by omega) ?_⟩)
    rw [hM.2 c (by omega)]
    refine ⟨fun a => vX10_could_52 ?_, fun a => vX10_could_52 ?_⟩
    · have z : ¬ 0 < wthF R Y c := fun z => nI_nle z (by omega) a
      rw [e, if_neg (by simpa using z)] at i
      rw [nI_add, or_n]; exact i
    · have z : 0 < wthF R Y c := by
        rcases Nat.eq_zero_or_pos (wthF R Y c) with z | z
        · exact absurd (by rw [z, n00]; exact Int32.le_refl _) a
        · exact z
      rw [e, if_pos (by simpa using z)] at i
      rw [nI_add, shl_n _ (by omega), or_n]; exact i
theorem q_could : PQ n p b R Y r (d + 3) 97 219 [] := by
  by_cases hb : b = 0
  · refine ⟨-1, nI 1, e1, fun g j hV => ?_, fun g j hV => ?_⟩
    · exact vX9_could_0 ⟨fun _ => X_ref Ag.rf, fun a => absurd (hV.tx0 hb) a⟩
    · exact vX10_could_0 (M_good fun g2 ha ht h7 => ⟨fun _ => M_no ha h7, fun a => absurd ((hV.ag ha).tm0 hb) a⟩)
  · refine ⟨nI (bF (cuP R Y) (R 5)), nI 0, e0, fun g j hV => ?_, fun g j hV => ?_⟩
    · exact vX9_could_0 ⟨fun a => absurd a (hV.tx1 hb), fun _ => ⟨p, hV.rp, X_count hV fun g' ha hN => X_could_loop (hV.ag ha) hN (X_ans ha) (R 5) 0 (by omega)⟩⟩
    · exact vX10_could_0 (M_good fun g2 ha ht h7 => ⟨fun a => absurd a ((hV.ag ha).tm1 hb), fun _ => M_laySets (hV.ag ha) fun g' hl hm => M_could_loop ((hV.ag ha).ag hl.ag) hm ⟨rfl, rfl, ha.tr hl.ag, by rw [hl 263 11 (by decide) (by decide)]; exact ht, by rw [hl 0 7 (by decide) (by decide)]; exact h7⟩ (R 5) 0 (by omega)⟩)
theorem X_surely_loop (hV : Vw n p b R Y r g) (hN : NG R Y g) (h : Cm (d + 2) 122 [.ref 0, .int (nI (bF (suP R Y) (R 5)))] r g j (rkI K)) : ∀ q c, c + q = R 5 → G (d + 3) 98 32 [(0, .ref 0), (1, .int (nI (bF (suP R Y) c))), (2, .int (nI c))] [] r g j (rkI K) := by
  have h5 := hV.b5
  have hs := setF_le (Y := Y) h5
  intro q
  induction q with
  | zero =>
    intro c hc
    obtain rfl : c = R 5 := by omega
    exact vX9_surely_32 ⟨p, hV.rp, OB_i (SH_p hV.hp) ⟨fun _ => h, fun a => absurd (by rw [hV.px.1.2.2.2.2.2.1]; exact nI_le (by omega) (by omega)) a⟩⟩
  | succ q ih =>
    intro c hc
    have i := ih (c + 1) (by omega)
    have e : bF (suP R Y) (c + 1) = bF (suP R Y) c ||| (if suP R Y c = true then 2 ^ c else 0) := rfl
    have hw := wthF_le (Y := Y) (show c < R 5 by omega)
    have no : ¬ (0 < setF R Y ∧ wthF R Y c = setF R Y) → G (d + 3) 98 85 [(0, .ref 0), (1, .int (nI (bF (suP R Y) c))), (2, .int (nI c))] [] r g j (rkI K) := fun z => vX9_surely_85 (by
      rw [e, if_neg (by simpa using z), Nat.or_zero] at i
      rw [nI_add]; exact i)
    refine vX9_surely_32 ⟨p, hV.rp, OB_i (SH_p hV.hp) ⟨fun a => absurd a (by rw [hV.px.1.2.2.2.2.2.1]; exact nI_ge (by omega) (by omega)), fun _ => ?_⟩⟩
    rw [hN.2.2]
    refine ⟨fun a => no fun z => nI_nle z.1 (by omega) a, fun a => ⟨p, hV.rp, X_setsWith hV hN (by omega) ?_⟩⟩
    rw [hN.2.2, nI_eq (by omega) (by omega)]
    refine ⟨fun a2 => vX9_surely_85 ?_, fun a2 => no fun z => a2 z.2⟩
    have z : 0 < setF R Y := by
      rcases Nat.eq_zero_or_pos (setF R Y) with z | z
      · exact absurd (by rw [z, n00]; exact Int32.le_refl _) a
      · exact z
    rw [e, if_pos (by simpa using ⟨z, a2⟩)] at i
    rw [nI_add, shl_n _ (by omega), or_n]; exact i
theorem M_surely_loop (hV : Vw n p b R Y r g) (hM : MG R Y g) (h : K (nI (bF (suP R Y) (R 5))) r g j) : ∀ q c, c + q = R 5 → G (d + 1) 220 25 [(0, .ref 263), (1, .int (nI (bF (suP R Y) c))), (2, .int (nI c))] [] r g j (rkI K) := by
  have h5 := hV.b5
  have hs := setF_le (Y := Y) h5
  intro q
  induction q with
  | zero =>
    intro c hc
    obtain rfl : c = R 5 := by omega
    exact vX10_surely_25 (IX_l (by decide) ⟨fun _ => h, fun a => absurd (by rw [hV.mr (by decide)]; exact nI_le (by omega) (by omega)) a⟩)
  | succ q ih =>
    intro c hc
    have i := ih (c + 1) (by omega)
    have e : bF (suP R Y) (c + 1) = bF (suP R Y) c ||| (if suP R Y c = true then 2 ^ c else 0) := rfl
    have hw := wthF_le (Y := Y) (show c < R 5 by omega)
    have no : ¬ (0 < setF R Y ∧ wthF R Y c = setF R Y) → G (d + 1) 220 62 [(0, .ref 263), (2, .int (nI c))] [.int (nI (bF (suP R Y) c))] r g j (rkI K) := fun z => vX10_surely_62 (vX10_surely_63 (by
      rw [e, if_neg (by simpa using z)] at i
      rw [nI_add, or_n]; exact i))
    refine vX10_surely_25 (IX_l (by decide) ⟨fun a => absurd a (by rw [hV.mr (by decide)]; exact nI_ge (by omega) (by omega)), fun _ => ?_⟩)
    rw [hM.1]
    refine ⟨fun a => no fun z => nI_nle z.1 (by omega) a, fun a => IX_l (by omega) ?_⟩
    rw [hM.2 c (by omega), nI_eq (by omega) (by omega)]
    refine ⟨fun a2 => vX10_surely_63 ?_, fun a2 => no fun z => a2 z.2⟩
    have z : 0 < setF R Y := by
      rcases Nat.eq_zero_or_pos (setF R Y) with z | z
      · exact absurd (by rw [z, n00]; exact Int32.le_refl _) a
      · exact z
    rw [e, if_pos (by simpa using ⟨z, a2⟩)] at i
    rw [nI_add, shl_n _ (by omega), or_n]; exact i
theorem q_surely : PQ n p b R Y r (d + 3) 98 220 [] := by
  by_cases hb : b = 0
  · refine ⟨-1, nI 1, e1, fun g j hV => ?_, fun g j hV => ?_⟩
    · exact vX9_surely_0 ⟨fun _ => X_ref Ag.rf, fun a => absurd (hV.tx0 hb) a⟩
    · exact vX10_surely_0 (M_good fun g2 ha ht h7 => ⟨fun _ => M_no ha h7, fun a => absurd ((hV.ag ha).tm0 hb) a⟩)
  · refine ⟨nI (bF (suP R Y) (R 5)), nI 0, e0, fun g j hV => ?_, fun g j hV => ?_⟩
    · exact vX9_surely_0 ⟨fun a => absurd a (hV.tx1 hb), fun _ => ⟨p, hV.rp, X_count hV fun g' ha hN => X_surely_loop (hV.ag ha) hN (X_ans ha) (R 5) 0 (by omega)⟩⟩
    · exact vX10_surely_0 (M_good fun g2 ha ht h7 => ⟨fun a => absurd a ((hV.ag ha).tm1 hb), fun _ => M_laySets (hV.ag ha) fun g' hl hm => M_surely_loop ((hV.ag ha).ag hl.ag) hm ⟨rfl, rfl, ha.tr hl.ag, by rw [hl 263 11 (by decide) (by decide)]; exact ht, by rw [hl 0 7 (by decide) (by decide)]; exact h7⟩ (R 5) 0 (by omega)⟩)
end
