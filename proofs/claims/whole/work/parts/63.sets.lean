/-! sets of crates: counted one by one (the reference), by their weights (the class) -/
theorem or_n (a c : Nat) : nI a ||| nI c = nI (a ||| c) := by
  apply Int32.toBitVec_inj.mp
  apply BitVec.eq_of_toNat_eq
  rw [Int32.toBitVec_or, BitVec.toNat_or]
  show (BitVec.ofNat 32 a).toNat ||| (BitVec.ofNat 32 c).toNat = (BitVec.ofNat 32 (a ||| c)).toNat
  rw [BitVec.toNat_ofNat, BitVec.toNat_ofNat, BitVec.toNat_ofNat, Nat.or_mod_two_pow]
theorem and_n (a c : Nat) : nI a &&& nI c = nI (a &&& c) := by
  apply Int32.toBitVec_inj.mp
  apply BitVec.eq_of_toNat_eq
  rw [Int32.toBitVec_and, BitVec.toNat_and]
  show (BitVec.ofNat 32 a).toNat &&& (BitVec.ofNat 32 c).toNat = (BitVec.ofNat 32 (a &&& c)).toNat
  rw [BitVec.toNat_ofNat, BitVec.toNat_ofNat, BitVec.toNat_ofNat, Nat.and_mod_two_pow]
theorem shl_n : ∀ c, c < 16 → nI 1 <<< (nI c &&& 31) = nI (2 ^ c) := by decide +kernel
theorem shr_n {z c : Nat} (hz : z < 2 ^ 31) (hc : c < 16) : nI z >>> (nI c &&& 31) = nI (z / 2 ^ c) := by
  have : ∀ c, c < 16 → ((nI c &&& 31).toBitVec.smod 32).toNat = c := by decide +kernel
  exact pk_shrN hz _ c (this c hc)
theorem bit_n {z c : Nat} (hz : z < 2 ^ 31) (hc : c < 16) : (nI z >>> (nI c &&& 31)) &&& nI 1 = nI (if z.testBit c = true then 1 else 0) := by
  rw [shr_n hz hc, and_n]
  congr 1
  have h1 : z / 2 ^ c &&& 1 = z / 2 ^ c % 2 := Nat.and_two_pow_sub_one_eq_mod (n := 1) _
  rw [h1]
  have h2 : z.testBit c = decide (z / 2 ^ c % 2 = 1) := Nat.testBit_eq_decide_div_mod_eq
  rw [h2]
  by_cases h : z / 2 ^ c % 2 = 1
  · rw [h]; rfl
  · rw [if_neg (by simpa using h)]; omega
theorem cntP_add (P : Nat → Bool) (a : Nat) : ∀ q, cntP P (a + q) = cntP P a + cntP (fun z => P (a + z)) q := by
  intro q
  induction q with
  | zero => rfl
  | succ q ih =>
    show cntP P (a + q) + (if P (a + q) = true then 1 else 0) = cntP P a + (cntP (fun z => P (a + z)) q + (if P (a + q) = true then 1 else 0))
    rw [ih]; omega
theorem cntP_eq {P Q : Nat → Bool} : ∀ N, (∀ z, z < N → P z = Q z) → cntP P N = cntP Q N := by
  intro N
  induction N with
  | zero => intro _; rfl
  | succ N ih =>
    intro h
    show cntP P N + (if P N = true then 1 else 0) = cntP Q N + (if Q N = true then 1 else 0)
    rw [ih (fun z hz => h z (by omega)), h N (by omega)]
theorem cntP_0 {P : Nat → Bool} : ∀ N, (∀ z, z < N → P z = false) → cntP P N = 0 := by
  intro N
  induction N with
  | zero => intro _; rfl
  | succ N ih =>
    intro h
    show cntP P N + (if P N = true then 1 else 0) = 0
    rw [ih (fun z hz => h z (by omega)), h N (by omega)]
    rfl
/-- o: 0 unopened, 1 by night, 2 by day; w: weights -/
def okZ (o : Nat → Nat) (z : Nat) : Nat → Bool
  | 0 => true
  | m + 1 => okZ o z m && (if o m = 1 then z.testBit m else if o m = 2 then !z.testBit m else true)
def tzZ (o w : Nat → Nat) (z : Nat) : Nat → Nat
  | 0 => 0
  | m + 1 => tzZ o w z m + (if o m = 0 ∧ z.testBit m = true then w m else 0)
def cW (o w : Nat → Nat) : Nat → Nat → Nat
  | 0, s => if s = 0 then 1 else 0
  | m + 1, s => if o m = 0 then cW o w m s + (if w m ≤ s then cW o w m (s - w m) else 0) else cW o w m s
def wB (o w : Nat → Nat) (c : Nat) : Nat → Nat → Nat
  | 0, _ => 0
  | m + 1, s => if m < c then 0 else if m = c then (if o c = 0 then (if w c ≤ s then cW o w c (s - w c) else 0) else if o c = 1 then cW o w c s else 0)
      else (if o m = 0 then wB o w c m s + (if w m ≤ s then wB o w c m (s - w m) else 0) else wB o w c m s)
section
variable {o w : Nat → Nat}
theorem okZ_hi {z : Nat} : ∀ m M, m ≤ M → okZ o (2 ^ M + z) m = okZ o z m := by
  intro m
  induction m with
  | zero => intro M _; rfl
  | succ m ih =>
    intro M h
    show (okZ o (2 ^ M + z) m && _) = (okZ o z m && _)
    rw [ih M (by omega), Nat.testBit_two_pow_add_gt (by omega)]
theorem tzZ_hi {z : Nat} : ∀ m M, m ≤ M → tzZ o w (2 ^ M + z) m = tzZ o w z m := by
  intro m
  induction m with
  | zero => intro M _; rfl
  | succ m ih =>
    intro M h
    show tzZ o w (2 ^ M + z) m + _ = tzZ o w z m + _
    rw [ih M (by omega), Nat.testBit_two_pow_add_gt (by omega)]
theorem bitHi {z m : Nat} (h : z < 2 ^ m) : (2 ^ m + z).testBit m = true := by
  rw [Nat.testBit_two_pow_add_eq, Nat.testBit_lt_two_pow h]; rfl
/-- the valid sets of a weight: as many as the class counts -/
theorem cnt_cW : ∀ m s, cntP (fun z => okZ o z m && decide (tzZ o w z m = s)) (2 ^ m) = cW o w m s := by
  intro m
  induction m with
  | zero =>
    intro s
    show 0 + (if (true && decide (0 = s)) = true then 1 else 0) = if s = 0 then 1 else 0
    by_cases h : s = 0
    · subst h; rfl
    · rw [if_neg h, if_neg (by simp; omega)]
  | succ m ih =>
    intro s
    rw [show 2 ^ (m + 1) = 2 ^ m + 2 ^ m by rw [Nat.pow_succ]; omega, cntP_add]
    have lo : ∀ z, z < 2 ^ m → (okZ o z (m + 1) && decide (tzZ o w z (m + 1) = s)) = (if o m = 1 then false else okZ o z m && decide (tzZ o w z m = s)) := fun z hz => by
      show (okZ o z m && (if o m = 1 then z.testBit m else if o m = 2 then !z.testBit m else true) && decide (tzZ o w z m + (if o m = 0 ∧ z.testBit m = true then w m else 0) = s)) = _
      rw [Nat.testBit_lt_two_pow hz]
      by_cases h1 : o m = 1
      · simp [h1]
      · simp [h1]
    have hi : ∀ z, z < 2 ^ m → (okZ o (2 ^ m + z) (m + 1) && decide (tzZ o w (2 ^ m + z) (m + 1) = s)) = (if o m = 2 then false else okZ o z m && decide (tzZ o w z m + (if o m = 0 then w m else 0) = s)) := fun z hz => by
      show (okZ o (2 ^ m + z) m && (if o m = 1 then (2 ^ m + z).testBit m else if o m = 2 then !(2 ^ m + z).testBit m else true) && decide (tzZ o w (2 ^ m + z) m + (if o m = 0 ∧ (2 ^ m + z).testBit m = true then w m else 0) = s)) = _
      rw [bitHi hz, okZ_hi m m (Nat.le_refl _), tzZ_hi m m (Nat.le_refl _)]
      by_cases h2 : o m = 2
      · simp [h2]
      · by_cases h1 : o m = 1
        · simp [h1]
        · simp [h2]
    rw [cntP_eq _ lo, cntP_eq (P := fun z => okZ o (2 ^ m + z) (m + 1) && decide (tzZ o w (2 ^ m + z) (m + 1) = s)) _ hi]
    show _ = if o m = 0 then cW o w m s + (if w m ≤ s then cW o w m (s - w m) else 0) else cW o w m s
    by_cases h0 : o m = 0
    · rw [if_pos h0]
      have e1 : cntP (fun z => if o m = 1 then false else okZ o z m && decide (tzZ o w z m = s)) (2 ^ m) = cW o w m s := by
        rw [← ih s]; exact cntP_eq _ (fun z _ => by rw [if_neg (by omega)])
      have e2 : cntP (fun z => if o m = 2 then false else okZ o z m && decide (tzZ o w z m + (if o m = 0 then w m else 0) = s)) (2 ^ m) = if w m ≤ s then cW o w m (s - w m) else 0 := by
        by_cases hw : w m ≤ s
        · rw [if_pos hw, ← ih (s - w m)]
          refine cntP_eq _ (fun z _ => ?_)
          rw [if_neg (by omega), if_pos h0]
          congr 1
          by_cases c : tzZ o w z m + w m = s
          · rw [decide_eq_true c, decide_eq_true (by omega)]
          · rw [decide_eq_false c, decide_eq_false (by omega)]
        · rw [if_neg hw]
          refine cntP_0 _ (fun z _ => ?_)
          rw [if_neg (by omega), if_pos h0, decide_eq_false (by omega), Bool.and_false]
      rw [e1, e2]
    · rw [if_neg h0]
      by_cases h1 : o m = 1
      · have e1 : cntP (fun z => if o m = 1 then false else okZ o z m && decide (tzZ o w z m = s)) (2 ^ m) = 0 := cntP_0 _ (fun z _ => by rw [if_pos h1])
        have e2 : cntP (fun z => if o m = 2 then false else okZ o z m && decide (tzZ o w z m + (if o m = 0 then w m else 0) = s)) (2 ^ m) = cW o w m s := by
          rw [← ih s]; exact cntP_eq _ (fun z _ => by rw [if_neg (by omega), if_neg h0, Nat.add_zero])
        rw [e1, e2, Nat.zero_add]
      · have e1 : cntP (fun z => if o m = 1 then false else okZ o z m && decide (tzZ o w z m = s)) (2 ^ m) = cW o w m s := by
          rw [← ih s]; exact cntP_eq _ (fun z _ => by rw [if_neg h1])
        by_cases h2 : o m = 2
        · have e2 : cntP (fun z => if o m = 2 then false else okZ o z m && decide (tzZ o w z m + (if o m = 0 then w m else 0) = s)) (2 ^ m) = 0 := cntP_0 _ (fun z _ => by rw [if_pos h2])
          rw [e1, e2]
        · sorry
end
