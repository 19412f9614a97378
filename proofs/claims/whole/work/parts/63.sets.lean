/-! sets of crates: counted one by one (the reference), by their weights (the class) -/
theorem or_n (a c : Nat) : nI a ||| nI c = nI (a ||| c) := by
  apply Int32.toBitVec_inj.mp
  apply BitVec.eq_of_toNat_eq
  rw [Int32.toBitVec_or, BitVec.toNat_or]
  show (BitVec.ofNat 32 a).toNat ||| (BitVec.ofNat 32 c).toNat = (BitVec.ofNat 32 (a ||| c)).toNat
  rw [BitVec.toNat_ofNat, BitVec.toNat_ofNat, BitVec.toNat_ofNat, Nat.or_mod_two_pow]
theorem and_n (a c : Nat) : nI a &&& nI c = nI (a &&& c) := by
  apply Int32.toBitVec_inj.mp
  apply BitVec.eq_of_toNat_eq
  rw [Int32.toBitVec_and, BitVec.toNat_and]
  show (BitVec.ofNat 32 a).toNat &&& (BitVec.ofNat 32 c).toNat = (BitVec.ofNat 32 (a &&& c)).toNat
  rw [BitVec.toNat_ofNat, BitVec.toNat_ofNat, BitVec.toNat_ofNat, Nat.and_mod_two_pow]
theorem shl_n : ∀ c, c < 16 → nI 1 <<< (nI c &&& 31) = nI (2 ^ c) := by decide +kernel
theorem shr_n {z c : Nat} (hz : z < 2 ^ 31) (hc : c < 16) : nI z >>> (nI c &&& 31) = nI (z / 2 ^ c) := by
  have : ∀ c, c < 16 → ((nI c &&& 31).toBitVec.smod 32).toNat = c := by decide +kernel
  exact pk_shrN hz _ c (this c hc)
theorem bit_n {z c : Nat} (hz : z < 2 ^ 31) (hc : c < 16) : (nI z >>> (nI c &&& 31)) &&& nI 1 = nI (if z.testBit c = true then 1 else 0) := by
  rw [shr_n hz hc, and_n]
  congr 1
  have h1 : z / 2 ^ c &&& 1 = z / 2 ^ c % 2 := Nat.and_two_pow_sub_one_eq_mod (n := 1) _
  rw [h1]
  have h2 : z.testBit c = decide (z / 2 ^ c % 2 = 1) := Nat.testBit_eq_decide_div_mod_eq
  rw [h2]
  by_cases h : z / 2 ^ c % 2 = 1
  · rw [h]; rfl
  · rw [if_neg (by simpa using h)]; omega
theorem cntP_add (P : Nat → Bool) (a : Nat) : ∀ q, cntP P (a + q) = cntP P a + cntP (fun z => P (a + z)) q := by
  intro q
  induction q with
  | zero => rfl
  | succ q ih =>
    show cntP P (a + q) + (if P (a + q) = true then 1 else 0) = cntP P a + (cntP (fun z => P (a + z)) q + (if P (a + q) = true then 1 else 0))
    rw [ih]; omega
theorem cntP_eq {P Q : Nat → Bool} : ∀ N, (∀ z, z < N → P z = Q z) → cntP P N = cntP Q N := by
  intro N
  induction N with
  | zero => intro _; rfl
  | succ N ih =>
    intro h
    show cntP P N + (if P N = true then 1 else 0) = cntP Q N + (if Q N = true then 1 else 0)
    rw [ih (fun z hz => h z (by omega)), h N (by omega)]
theorem cntP_0 {P : Nat → Bool} : ∀ N, (∀ z, z < N → P z = false) → cntP P N = 0 := by
  intro N
  induction N with
  | zero => intro _; rfl
  | succ N ih =>
    intro h
    show cntP P N + (if P N = true then 1 else 0) = 0
    rw [ih (fun z hz => h z (by omega)), h N (by omega)]
    rfl
/-- o: 0 unopened, 1 by night, else by day; w: weights -/
def okZ (o : Nat → Nat) (z : Nat) : Nat → Bool
  | 0 => true
  | m + 1 => okZ o z m && (if o m = 0 then true else if o m = 1 then z.testBit m else !z.testBit m)
def tzZ (o w : Nat → Nat) (z : Nat) : Nat → Nat
  | 0 => 0
  | m + 1 => tzZ o w z m + (if o m = 0 ∧ z.testBit m = true then w m else 0)
def cW (o w : Nat → Nat) : Nat → Nat → Nat
  | 0, s => if s = 0 then 1 else 0
  | m + 1, s => if o m = 0 then cW o w m s + (if w m ≤ s then cW o w m (s - w m) else 0) else cW o w m s
/-- those with crate c, of the first m (c < m) -/
def wB (o w : Nat → Nat) (c : Nat) : Nat → Nat → Nat
  | 0, _ => 0
  | m + 1, s => if m < c then 0 else if m = c then (if o c = 0 then (if w c ≤ s then cW o w c (s - w c) else 0) else if o c = 1 then cW o w c s else 0)
      else (if o m = 0 then wB o w c m s + (if w m ≤ s then wB o w c m (s - w m) else 0) else wB o w c m s)
def vZ (o w : Nat → Nat) (m s z : Nat) : Bool := okZ o z m && decide (tzZ o w z m = s)
section
variable {o w : Nat → Nat}
theorem okZ_hi {z : Nat} : ∀ m M, m ≤ M → okZ o (2 ^ M + z) m = okZ o z m := by
  intro m
  induction m with
  | zero => intro M _; rfl
  | succ m ih =>
    intro M h
    show (okZ o (2 ^ M + z) m && _) = (okZ o z m && _)
    rw [ih M (by omega), Nat.testBit_two_pow_add_gt (by omega)]
theorem tzZ_hi {z : Nat} : ∀ m M, m ≤ M → tzZ o w (2 ^ M + z) m = tzZ o w z m := by
  intro m
  induction m with
  | zero => intro M _; rfl
  | succ m ih =>
    intro M h
    show tzZ o w (2 ^ M + z) m + _ = tzZ o w z m + _
    rw [ih M (by omega), Nat.testBit_two_pow_add_gt (by omega)]
theorem bitHi {z m : Nat} (h : z < 2 ^ m) : (2 ^ m + z).testBit m = true := by
  rw [Nat.testBit_two_pow_add_eq, Nat.testBit_lt_two_pow h]; rfl
theorem vZ_lo {m s z : Nat} (hz : z < 2 ^ m) : vZ o w (m + 1) s z = (if o m = 1 then false else vZ o w m s z) := by
  show (okZ o z m && (if o m = 0 then true else if o m = 1 then z.testBit m else !z.testBit m) && decide (tzZ o w z m + (if o m = 0 ∧ z.testBit m = true then w m else 0) = s)) = if o m = 1 then false else okZ o z m && decide (tzZ o w z m = s)
  rw [Nat.testBit_lt_two_pow hz]
  by_cases h1 : o m = 1
  · simp [h1]
  · by_cases h0 : o m = 0
    · simp [h0]
    · simp [h1, h0]
theorem vZ_hi {m s z : Nat} (hz : z < 2 ^ m) : vZ o w (m + 1) s (2 ^ m + z) = (if o m = 0 then (if w m ≤ s then vZ o w m (s - w m) z else false) else if o m = 1 then vZ o w m s z else false) := by
  show (okZ o (2 ^ m + z) m && (if o m = 0 then true else if o m = 1 then (2 ^ m + z).testBit m else !(2 ^ m + z).testBit m) && decide (tzZ o w (2 ^ m + z) m + (if o m = 0 ∧ (2 ^ m + z).testBit m = true then w m else 0) = s)) = _
  rw [bitHi hz, okZ_hi m m (Nat.le_refl _), tzZ_hi m m (Nat.le_refl _)]
  by_cases h0 : o m = 0
  · simp only [h0, if_true, and_self, Bool.and_true]
    by_cases hw : w m ≤ s
    · rw [if_pos hw]
      unfold vZ
      congr 1
      by_cases c : tzZ o w z m + w m = s
      · rw [decide_eq_true c, decide_eq_true (by omega)]
      · rw [decide_eq_false c, decide_eq_false (by omega)]
    · rw [if_neg hw, decide_eq_false (by omega), Bool.and_false]
  · by_cases h1 : o m = 1
    · simp [h1, vZ]
    · simp [h0, h1]
theorem cnt_step (e : Nat → Bool) (m s : Nat) : cntP (fun z => vZ o w (m + 1) s z && e z) (2 ^ (m + 1)) = (if o m = 1 then 0 else cntP (fun z => vZ o w m s z && e z) (2 ^ m)) + (if o m = 0 then (if w m ≤ s then cntP (fun z => vZ o w m (s - w m) z && e (2 ^ m + z)) (2 ^ m) else 0) else if o m = 1 then cntP (fun z => vZ o w m s z && e (2 ^ m + z)) (2 ^ m) else 0) := by
  rw [show 2 ^ (m + 1) = 2 ^ m + 2 ^ m by rw [Nat.pow_succ]; omega, cntP_add]
  congr 1
  · by_cases h1 : o m = 1
    · rw [if_pos h1]
      exact cntP_0 _ (fun z hz => by rw [vZ_lo hz, if_pos h1, Bool.false_and])
    · rw [if_neg h1]
      exact cntP_eq _ (fun z hz => by rw [vZ_lo hz, if_neg h1])
  · by_cases h0 : o m = 0
    · rw [if_pos h0]
      by_cases hw : w m ≤ s
      · rw [if_pos hw]
        exact cntP_eq _ (fun z hz => by rw [vZ_hi hz, if_pos h0, if_pos hw])
      · rw [if_neg hw]
        exact cntP_0 _ (fun z hz => by rw [vZ_hi hz, if_pos h0, if_neg hw, Bool.false_and])
    · rw [if_neg h0]
      by_cases h1 : o m = 1
      · rw [if_pos h1]
        exact cntP_eq _ (fun z hz => by rw [vZ_hi hz, if_neg h0, if_pos h1])
      · rw [if_neg h1]
        exact cntP_0 _ (fun z hz => by rw [vZ_hi hz, if_neg h0, if_neg h1, Bool.false_and])
/-- the valid sets of a weight: as many as the class counts -/
theorem cnt_cW' : ∀ m s, cntP (fun z => vZ o w m s z && true) (2 ^ m) = cW o w m s := by
  intro m
  induction m with
  | zero =>
    intro s
    show 0 + (if (true && decide (0 = s) && true) = true then 1 else 0) = if s = 0 then 1 else 0
    by_cases h : s = 0
    · subst h; rfl
    · rw [if_neg h, if_neg (by simp; omega)]
  | succ m ih =>
    intro s
    rw [cnt_step (fun _ => true), ih s, ih (s - w m)]
    show _ = if o m = 0 then cW o w m s + (if w m ≤ s then cW o w m (s - w m) else 0) else cW o w m s
    by_cases h0 : o m = 0
    · rw [if_pos h0, if_pos h0, if_neg (show ¬ o m = 1 by omega)]
    · rw [if_neg h0, if_neg h0]
      by_cases h1 : o m = 1
      · rw [if_pos h1, if_pos h1, Nat.zero_add]
      · rw [if_neg h1, if_neg h1, Nat.add_zero]
theorem cnt_cW (m s : Nat) : cntP (vZ o w m s) (2 ^ m) = cW o w m s := by
  rw [← cnt_cW']; exact cntP_eq _ (fun z _ => (Bool.and_true _).symm)
theorem cnt_wB (c : Nat) : ∀ m s, c < m → cntP (fun z => vZ o w m s z && z.testBit c) (2 ^ m) = wB o w c m s := by
  intro m
  induction m with
  | zero => intro s h; omega
  | succ m ih =>
    intro s h
    rw [cnt_step (fun z => z.testBit c)]
    show _ = if m < c then 0 else if m = c then (if o c = 0 then (if w c ≤ s then cW o w c (s - w c) else 0) else if o c = 1 then cW o w c s else 0) else (if o m = 0 then wB o w c m s + (if w m ≤ s then wB o w c m (s - w m) else 0) else wB o w c m s)
    rw [if_neg (show ¬ m < c by omega)]
    by_cases hc : m = c
    · subst hc
      rw [if_pos rfl]
      have lo : cntP (fun z => vZ o w m s z && z.testBit m) (2 ^ m) = 0 := cntP_0 _ (fun z hz => by rw [Nat.testBit_lt_two_pow hz, Bool.and_false])
      have hi : ∀ s, cntP (fun z => vZ o w m s z && (2 ^ m + z).testBit m) (2 ^ m) = cW o w m s := fun s => by
        rw [← cnt_cW]; exact cntP_eq _ (fun z hz => by rw [bitHi hz, Bool.and_true])
      rw [lo, hi, hi]
      simp
    · rw [if_neg hc]
      have hi : ∀ s, cntP (fun z => vZ o w m s z && (2 ^ m + z).testBit c) (2 ^ m) = wB o w c m s := fun s => by
        rw [← ih s (by omega)]; exact cntP_eq _ (fun z hz => by rw [Nat.testBit_two_pow_add_gt (by omega)])
      rw [hi, hi, ih s (by omega)]
      by_cases h0 : o m = 0
      · rw [if_pos h0, if_pos h0, if_neg (show ¬ o m = 1 by omega)]
      · rw [if_neg h0, if_neg h0]
        by_cases h1 : o m = 1
        · rw [if_pos h1, if_pos h1, Nat.zero_add]
        · rw [if_neg h1, if_neg h1, Nat.add_zero]
theorem cW_le (m s : Nat) : cW o w m s ≤ 2 ^ m := by rw [← cnt_cW]; exact cntP_le _ _
theorem cntP_mo {P Q : Nat → Bool} : ∀ N, (∀ z, z < N → P z = true → Q z = true) → cntP P N ≤ cntP Q N := by
  intro N
  induction N with
  | zero => intro _; exact Nat.le_refl _
  | succ N ih =>
    intro h
    show cntP P N + (if P N = true then 1 else 0) ≤ cntP Q N + (if Q N = true then 1 else 0)
    have := ih (fun z hz => h z (by omega))
    by_cases hp : P N = true
    · rw [if_pos hp, if_pos (h N (by omega) hp)]; omega
    · rw [if_neg hp]; omega
theorem wB_le {c m s : Nat} (h : c < m) : wB o w c m s ≤ cW o w m s := by
  rw [← cnt_wB c m s h, ← cnt_cW]
  exact cntP_mo _ (fun z _ h => by
    rw [Bool.and_eq_true] at h; exact h.1)
/-- the unopened crates' weights together -/
def tot (o w : Nat → Nat) : Nat → Nat
  | 0 => 0
  | m + 1 => tot o w m + (if o m = 0 then w m else 0)
theorem cW_far : ∀ m s, tot o w m < s → cW o w m s = 0 := by
  intro m
  induction m with
  | zero => intro s h; show (if s = 0 then 1 else 0) = 0; rw [if_neg (by omega)]
  | succ m ih =>
    intro s h
    have h' : tot o w m + (if o m = 0 then w m else 0) < s := h
    show (if o m = 0 then cW o w m s + (if w m ≤ s then cW o w m (s - w m) else 0) else cW o w m s) = 0
    by_cases h0 : o m = 0
    · rw [if_pos h0] at h' ⊢
      rw [ih s (by omega), ih (s - w m) (by omega)]; simp
    · rw [if_neg h0] at h' ⊢
      exact ih s (by omega)
theorem wB_far {c m s : Nat} (hc : c < m) (h : tot o w m < s) : wB o w c m s = 0 := by
  have := wB_le (o := o) (w := w) (s := s) hc
  rw [cW_far m s h] at this; omega
/-- by the weights alone -/
theorem wB_low {c : Nat} (h0 : o c = 0) : ∀ m s, s < w c → wB o w c m s = 0 := by
  intro m
  induction m with
  | zero => intro s _; rfl
  | succ m ih =>
    intro s hs
    show (if m < c then 0 else if m = c then (if o c = 0 then (if w c ≤ s then cW o w c (s - w c) else 0) else if o c = 1 then cW o w c s else 0) else (if o m = 0 then wB o w c m s + (if w m ≤ s then wB o w c m (s - w m) else 0) else wB o w c m s)) = 0
    rw [if_pos h0, if_neg (show ¬ w c ≤ s by omega), ih s hs, ih (s - w m) (by omega)]
    simp
theorem wB_alt {c : Nat} (h0 : o c = 0) : ∀ m s, c < m → w c ≤ s → wB o w c m s + wB o w c m (s - w c) = cW o w m (s - w c) := by
  intro m
  induction m with
  | zero => intro s h; omega
  | succ m ih =>
    intro s h hs
    have e : ∀ s, wB o w c (m + 1) s = if m < c then 0 else if m = c then (if o c = 0 then (if w c ≤ s then cW o w c (s - w c) else 0) else if o c = 1 then cW o w c s else 0) else (if o m = 0 then wB o w c m s + (if w m ≤ s then wB o w c m (s - w m) else 0) else wB o w c m s) := fun _ => rfl
    have f : ∀ s, cW o w (m + 1) s = if o m = 0 then cW o w m s + (if w m ≤ s then cW o w m (s - w m) else 0) else cW o w m s := fun _ => rfl
    rw [e, e, f, if_neg (show ¬ m < c by omega), if_neg (show ¬ m < c by omega)]
    by_cases hc : m = c
    · subst hc
      rw [if_pos rfl, if_pos rfl, if_pos h0, if_pos h0, if_pos h0, if_pos hs]
    · rw [if_neg hc, if_neg hc]
      have i1 := ih s (by omega) hs
      by_cases hm : o m = 0
      · rw [if_pos hm, if_pos hm, if_pos hm]
        by_cases a : w m ≤ s - w c
        · have i2 := ih (s - w m) (by omega) (by omega)
          rw [if_pos a, if_pos a, if_pos (show w m ≤ s by omega), show s - w c - w m = s - w m - w c by omega]
          omega
        · rw [if_neg a, if_neg a]
          by_cases a2 : w m ≤ s
          · rw [if_pos a2, wB_low h0 m (s - w m) (by omega)]; omega
          · rw [if_neg a2]; omega
      · rw [if_neg hm, if_neg hm, if_neg hm]; exact i1
/-- opened by night: in every set; by day: in none -/
theorem wB_night {c : Nat} (h1 : o c = 1) : ∀ m s, c < m → wB o w c m s = cW o w m s := by
  intro m
  induction m with
  | zero => intro s h; omega
  | succ m ih =>
    intro s h
    show (if m < c then 0 else if m = c then (if o c = 0 then (if w c ≤ s then cW o w c (s - w c) else 0) else if o c = 1 then cW o w c s else 0) else (if o m = 0 then wB o w c m s + (if w m ≤ s then wB o w c m (s - w m) else 0) else wB o w c m s)) = if o m = 0 then cW o w m s + (if w m ≤ s then cW o w m (s - w m) else 0) else cW o w m s
    rw [if_neg (show ¬ m < c by omega)]
    by_cases hc : m = c
    · subst hc; rw [if_pos rfl, if_neg (show ¬ o m = 0 by omega), if_pos h1, if_neg (show ¬ o m = 0 by omega)]
    · rw [if_neg hc, ih s (by omega), ih (s - w m) (by omega)]
theorem wB_day {c : Nat} (h0 : o c ≠ 0) (h1 : o c ≠ 1) : ∀ m s, wB o w c m s = 0 := by
  intro m
  induction m with
  | zero => intro s; rfl
  | succ m ih =>
    intro s
    show (if m < c then 0 else if m = c then (if o c = 0 then (if w c ≤ s then cW o w c (s - w c) else 0) else if o c = 1 then cW o w c s else 0) else (if o m = 0 then wB o w c m s + (if w m ≤ s then wB o w c m (s - w m) else 0) else wB o w c m s)) = 0
    rw [if_neg h0, if_neg h1, ih s, ih (s - w m)]
    simp
/-- sums of weights: all (wAll), and what the set must weigh beside the unopened ones (ldF) -/
def wAll (w : Nat → Nat) : Nat → Nat
  | 0 => 0
  | m + 1 => wAll w m + w m
def ldF (o w : Nat → Nat) : Nat → Nat
  | 0 => 0
  | m + 1 => ldF o w m + (if o m = 1 then 2 * w m else w m)
def swF (w : Nat → Nat) (z : Nat) : Nat → Nat
  | 0 => 0
  | m + 1 => swF w z m + (if z.testBit m = true then w m else 0)
theorem ok_straw {z : Nat} : ∀ m, okZ o z m = true → wAll w m + swF w z m = ldF o w m + tzZ o w z m := by
  intro m
  induction m with
  | zero => intro _; rfl
  | succ m ih =>
    intro h
    have h' : (okZ o z m && (if o m = 0 then true else if o m = 1 then z.testBit m else !z.testBit m)) = true := h
    rw [Bool.and_eq_true] at h'
    have i := ih h'.1
    show wAll w m + w m + (swF w z m + (if z.testBit m = true then w m else 0)) = ldF o w m + (if o m = 1 then 2 * w m else w m) + (tzZ o w z m + (if o m = 0 ∧ z.testBit m = true then w m else 0))
    have h2 := h'.2
    by_cases h0 : o m = 0
    · cases hb : z.testBit m with
      | true => simp [h0]; omega
      | false => simp [h0]; omega
    · by_cases h1 : o m = 1
      · rw [if_neg h0, if_pos h1] at h2
        rw [h2]; simp [h1]; omega
      · rw [if_neg h0, if_neg h1] at h2
        have h3 : z.testBit m = false := by cases hb : z.testBit m with
          | true => rw [hb] at h2; cases h2
          | false => rfl
        rw [h3]; simp [h0, h1]; omega
/-- the reference's masks -/
def opB (o : Nat → Nat) (P : Nat → Prop) [∀ k, Decidable (P k)] : Nat → Nat
  | 0 => 0
  | m + 1 => opB o P m ||| (if P (o m) then 2 ^ m else 0)
theorem opB_lt (P : Nat → Prop) [∀ k, Decidable (P k)] : ∀ m, opB o P m < 2 ^ m := by
  intro m
  induction m with
  | zero => exact Nat.one_pos
  | succ m ih =>
    refine Nat.or_lt_two_pow (Nat.lt_of_lt_of_le ih (Nat.pow_le_pow_right (by omega) (by omega))) ?_
    split
    · exact Nat.pow_lt_pow_right (by omega) (by omega)
    · exact Nat.two_pow_pos _
theorem opB_bit (P : Nat → Prop) [∀ k, Decidable (P k)] : ∀ m i, (opB o P m).testBit i = (decide (i < m) && decide (P (o i))) := by
  intro m
  induction m with
  | zero => intro i; show (0 : Nat).testBit i = _; rw [Nat.zero_testBit]; simp
  | succ m ih =>
    intro i
    show (opB o P m ||| (if P (o m) then 2 ^ m else 0)).testBit i = _
    rw [Nat.testBit_or, ih i]
    by_cases hi : i = m
    · subst hi
      by_cases hp : P (o i)
      · rw [if_pos hp, Nat.testBit_two_pow_self, decide_eq_true hp]; simp
      · rw [if_neg hp, Nat.zero_testBit, decide_eq_false hp]; simp
    · have e : (if P (o m) then 2 ^ m else 0).testBit i = false := by
        split
        · rw [Nat.testBit_two_pow_of_ne (by omega)]
        · exact Nat.zero_testBit _
      rw [e, Bool.or_false]
      by_cases h : i < m
      · rw [decide_eq_true h, decide_eq_true (show i < m + 1 by omega)]
      · rw [decide_eq_false h, decide_eq_false (show ¬ i < m + 1 by omega)]
theorem okZ_all {z : Nat} : ∀ m, okZ o z m = true ↔ ∀ i, i < m → (o i = 0 ∨ (o i = 1 ∧ z.testBit i = true) ∨ (o i ≠ 0 ∧ o i ≠ 1 ∧ z.testBit i = false)) := by
  intro m
  induction m with
  | zero => exact ⟨fun _ i h => by omega, fun _ => rfl⟩
  | succ m ih =>
    show (okZ o z m && (if o m = 0 then true else if o m = 1 then z.testBit m else !z.testBit m)) = true ↔ _
    rw [Bool.and_eq_true, ih]
    have key : ((if o m = 0 then true else if o m = 1 then z.testBit m else !z.testBit m) = true) ↔ (o m = 0 ∨ (o m = 1 ∧ z.testBit m = true) ∨ (o m ≠ 0 ∧ o m ≠ 1 ∧ z.testBit m = false)) := by
      by_cases h0 : o m = 0
      · simp [h0]
      · by_cases h1 : o m = 1
        · simp [h1]
        · simp [h0, h1]
    rw [key]
    constructor
    · rintro ⟨h1, h2⟩ i hi
      by_cases e : i = m
      · subst e; exact h2
      · exact h1 i (by omega)
    · intro h
      exact ⟨fun i hi => h i (by omega), h m (by omega)⟩
theorem mask_ok {z m : Nat} (hz : z < 2 ^ m) : (z &&& opB o (fun k => 0 < k) m = opB o (fun k => k = 1) m) ↔ okZ o z m = true := by
  rw [okZ_all]
  constructor
  · intro h i hi
    have := congrArg (fun q => q.testBit i) h
    simp only [Nat.testBit_and, opB_bit, decide_eq_true hi, Bool.true_and] at this
    by_cases h0 : o i = 0
    · exact Or.inl h0
    · rw [decide_eq_true (show 0 < o i by omega), Bool.and_true] at this
      by_cases h1 : o i = 1
      · rw [decide_eq_true h1] at this; exact Or.inr (Or.inl ⟨h1, this⟩)
      · rw [decide_eq_false h1] at this; exact Or.inr (Or.inr ⟨h0, h1, this⟩)
  · intro h
    apply Nat.eq_of_testBit_eq
    intro i
    rw [Nat.testBit_and, opB_bit, opB_bit]
    by_cases hi : i < m
    · rw [decide_eq_true hi, Bool.true_and, Bool.true_and]
      rcases h i hi with a | ⟨a, c⟩ | ⟨a, a', c⟩
      · simp [a]
      · rw [c]; simp [a]
      · rw [c]; simp [a']
    · rw [decide_eq_false hi, Bool.false_and, Bool.and_false, Bool.false_and]
end
