/-! CRANES, the reference: a way is a number by eights (wb_, pf_, fb_ rows: out of kit/laws) -/
theorem wb_tb (n : Nat) : (lN n).toBitVec = BitVec.ofNat 64 n := rfl
theorem wb_inj {a b : Int64} (h : a.toBitVec = b.toBitVec) : a = b := Int64.toBitVec_inj.mp h
theorem wb_of (x : Int64) : x = lN x.toBitVec.toNat := wb_inj (by rw [wb_tb]; simp)
theorem wb_c : ∀ k, k < 64 → ((nI k).toInt64 &&& 63) = lN k := by decide +kernel
theorem wb_sm : ∀ k, k < 64 → (BitVec.ofNat 64 k).smod 64 = BitVec.ofNat 64 k := by decide +kernel
theorem wb_shl (n : Nat) {k : Nat} (hk : k < 64) : lN n <<< ((nI k).toInt64 &&& 63) = lN (n * 2 ^ k) := by
  rw [wb_c k hk]
  apply wb_inj
  rw [Int64.toBitVec_shiftLeft, wb_tb, wb_tb, wb_tb, wb_sm k hk]
  apply BitVec.eq_of_toNat_eq
  rw [BitVec.shiftLeft_eq', BitVec.toNat_shiftLeft, BitVec.toNat_ofNat, BitVec.toNat_ofNat, BitVec.toNat_ofNat, Nat.mod_eq_of_lt (show k < 2 ^ 64 by omega), Nat.shiftLeft_eq, Nat.mul_mod, Nat.mod_mod, ← Nat.mul_mod]
theorem pf_shr {a d : Nat} {D : Int64} (hD : (D.toBitVec.smod 64).toNat = d) (h : a < 2 ^ 62) : lN a >>> D = lN (a / 2 ^ d) := by
  have hd : a / 2 ^ d ≤ a := Nat.div_le_self _ _
  apply Int64.toInt_inj.mp
  have e : (lN a >>> D).toInt = (lN a).toInt >>> d := by
    rw [← hD]
    exact BitVec.toInt_sshiftRight ..
  rw [e, Int.shiftRight_eq_div_pow, pk_lT (by omega), pk_lT (by omega)]
  rfl
theorem fb_andL (a b : Nat) : lN a &&& lN b = lN (a &&& b) := by
  apply Int64.toBitVec_inj.1
  show BitVec.ofNat 64 a &&& BitVec.ofNat 64 b = BitVec.ofNat 64 (a &&& b)
  apply BitVec.eq_of_getLsbD_eq
  intro i hi
  simp [hi]
theorem fb_orL (a b : Nat) : lN a ||| lN b = lN (a ||| b) := by
  apply Int64.toBitVec_inj.1
  show BitVec.ofNat 64 a ||| BitVec.ofNat 64 b = BitVec.ofNat 64 (a ||| b)
  apply BitVec.eq_of_getLsbD_eq
  intro i hi
  simp [hi]
theorem fb_xorL (a b : Nat) : lN a ^^^ lN b = lN (a ^^^ b) := by
  apply Int64.toBitVec_inj.1
  show BitVec.ofNat 64 a ^^^ BitVec.ofNat 64 b = BitVec.ofNat 64 (a ^^^ b)
  apply BitVec.eq_of_getLsbD_eq
  intro i hi
  simp [hi]
theorem fb_maskL (n k : Nat) : lN n &&& lN (2 ^ k - 1) = lN (n % 2 ^ k) := by rw [fb_andL, Nat.and_two_pow_sub_one_eq_mod]
theorem wb_shr {a k : Nat} (hk : k < 64) (h : a < 2 ^ 62) : lN a >>> ((nI k).toInt64 &&& 63) = lN (a / 2 ^ k) := by
  rw [wb_c k hk]
  refine pf_shr ?_ h
  rw [wb_tb, wb_sm k hk, BitVec.toNat_ofNat]
  exact Nat.mod_eq_of_lt (by omega)
theorem m1N : -(lN 1) = lN (2 ^ 64 - 1) := by decide +kernel
/-- a number with no digit at s: with d there -/
theorem dig_tb {V s d : Nat} (hd : d < 8) (h0 : V / 2 ^ s % 8 = 0) (i : Nat) : (V + d * 2 ^ s).testBit i = if i < s then V.testBit i else if i < s + 3 then d.testBit (i - s) else V.testBit i := by
  have hp : 0 < 2 ^ s := Nat.two_pow_pos s
  have e1 : V = 2 ^ s * (V / 2 ^ s) + V % 2 ^ s := (Nat.div_add_mod V (2 ^ s)).symm
  have e2 : V / 2 ^ s = 2 ^ 3 * (V / 2 ^ s / 8) + 0 := by omega
  have e3 : V + d * 2 ^ s = 2 ^ s * (2 ^ 3 * (V / 2 ^ s / 8) + d) + V % 2 ^ s := by
    have : V + d * 2 ^ s = 2 ^ s * (V / 2 ^ s) + V % 2 ^ s + d * 2 ^ s := by rw [← e1]
    rw [this, Nat.mul_add, Nat.mul_comm d]
    rw [show 2 ^ 3 * (V / 2 ^ s / 8) = V / 2 ^ s by omega]
    omega
  have hl : V % 2 ^ s < 2 ^ s := Nat.mod_lt _ hp
  have tb := Nat.testBit_two_pow_mul_add (2 ^ 3 * (V / 2 ^ s / 8) + d) hl i
  have tv := Nat.testBit_two_pow_mul_add (V / 2 ^ s) hl i
  rw [← e1] at tv
  rw [e3, tb]
  by_cases c : i < s
  · rw [if_pos c, if_pos c]
    rw [if_pos c] at tv
    exact tv.symm
  · rw [if_neg c, if_neg c, Nat.testBit_two_pow_mul_add _ (show d < 2 ^ 3 by omega)]
    by_cases c2 : i < s + 3
    · rw [if_pos c2, if_pos (by omega)]
    · rw [if_neg c2, if_neg (by omega)]
      rw [if_neg c, e2, Nat.testBit_two_pow_mul_add _ (show (0 : Nat) < 2 ^ 3 by decide), if_neg (by omega)] at tv
      exact tv.symm
theorem dig_or {V s d : Nat} (hd : d < 8) (h0 : V / 2 ^ s % 8 = 0) : V ||| d * 2 ^ s = V + d * 2 ^ s := by
  apply Nat.eq_of_testBit_eq
  intro i
  have t0 := dig_tb (d := 0) (by decide) h0 i
  rw [Nat.zero_mul, Nat.add_zero] at t0
  rw [dig_tb hd h0, Nat.testBit_or, Nat.testBit_mul_two_pow]
  by_cases c : i < s
  · rw [if_pos c]; simp [show ¬ s ≤ i by omega]
  · rw [if_neg c]
    by_cases c2 : i < s + 3
    · rw [if_pos c2]
      rw [if_neg c, if_pos c2] at t0
      rw [t0]; simp [show s ≤ i by omega]
    · rw [if_neg c2]
      have : d.testBit (i - s) = false := Nat.testBit_lt_two_pow (Nat.lt_of_lt_of_le (show d < 2 ^ 3 by omega) (Nat.pow_le_pow_right (by decide) (by omega)))
      rw [this]; simp
theorem dig_clr {V s d : Nat} (hd : d < 8) (h0 : V / 2 ^ s % 8 = 0) (hV : V < 2 ^ 63) (hs : s + 3 ≤ 64) : (V + d * 2 ^ s) &&& ((7 * 2 ^ s) ^^^ (2 ^ 64 - 1)) = V := by
  apply Nat.eq_of_testBit_eq
  intro i
  have t0 := dig_tb (d := 0) (by decide) h0 i
  rw [Nat.zero_mul, Nat.add_zero] at t0
  rw [Nat.testBit_and, dig_tb hd h0, Nat.testBit_xor, Nat.testBit_mul_two_pow, Nat.testBit_two_pow_sub_one, show (7 : Nat) = 2 ^ 3 - 1 from rfl, Nat.testBit_two_pow_sub_one]
  by_cases c : i < s
  · rw [if_pos c]; simp [show ¬ s ≤ i by omega, show i < 64 by omega]
  · rw [if_neg c]
    by_cases c2 : i < s + 3
    · rw [if_neg c, if_pos c2, Nat.zero_testBit] at t0
      rw [if_pos c2, t0]; simp [show s ≤ i by omega, show i < 64 by omega, show i - s < 3 by omega]
    · rw [if_neg c2]
      by_cases c3 : i < 64
      · simp [show s ≤ i by omega, c3, show ¬ i - s < 3 by omega]
      · have : V.testBit i = false := Nat.testBit_lt_two_pow (Nat.lt_of_lt_of_le hV (Nat.pow_le_pow_right (by decide) (by omega)))
        rw [this]; simp
def wyL (lb : Nat → Nat) : List Nat → Nat
  | [] => 0
  | k :: l => wyL lb l + (lb k + 1) * 8 ^ l.length
def wyE (lb : Nat → Nat) (s : St) : Nat := wyL lb (cr_g s 0) + 32768 * wyL lb (cr_g s 1) + 1073741824 * wyL lb (cr_g s 2)
theorem p28 (n : Nat) : 2 ^ (3 * n) = 8 ^ n := by rw [Nat.pow_mul]
section
variable {lb : Nat → Nat} {s s' : St} {cnt : Nat}
theorem wyL_lt (hb : ∀ k, lb k ≤ 4) : ∀ l, wyL lb l < 8 ^ l.length := by
  intro l
  induction l with
  | nil => exact Nat.one_pos
  | cons k l ih =>
    show wyL lb l + (lb k + 1) * 8 ^ l.length < 8 ^ (l.length + 1)
    have h1 : (lb k + 1) * 8 ^ l.length ≤ 5 * 8 ^ l.length := Nat.mul_le_mul_right _ (by have := hb k; omega)
    rw [Nat.pow_succ]
    omega
theorem wyL_lt5 (hb : ∀ k, lb k ≤ 4) {l : List Nat} (h : l.length ≤ 5) : wyL lb l < 32768 := Nat.lt_of_lt_of_le (wyL_lt hb l) (Nat.pow_le_pow_right (by decide) h : 8 ^ l.length ≤ 8 ^ 5)
theorem wyL_hi (hb : ∀ k, lb k ≤ 4) {l : List Nat} {i : Nat} (h : l.length ≤ i) : wyL lb l / 8 ^ i % 8 = 0 := by
  rw [Nat.div_eq_of_lt (Nat.lt_of_lt_of_le (wyL_lt hb l) (Nat.pow_le_pow_right (by decide) h))]
theorem wyL_at (hb : ∀ k, lb k ≤ 4) {k : Nat} {l2 : List Nat} : ∀ l1, wyL lb (l1 ++ k :: l2) / 8 ^ l2.length % 8 = lb k + 1 := by
  intro l1
  have hp : 0 < 8 ^ l2.length := Nat.pow_pos (by decide)
  induction l1 with
  | nil =>
    show (wyL lb l2 + (lb k + 1) * 8 ^ l2.length) / 8 ^ l2.length % 8 = _
    rw [Nat.add_mul_div_right _ _ hp, Nat.div_eq_of_lt (wyL_lt hb l2)]
    have := hb k
    omega
  | cons a l1 ih =>
    show (wyL lb (l1 ++ k :: l2) + (lb a + 1) * 8 ^ (l1 ++ k :: l2).length) / 8 ^ l2.length % 8 = _
    have e : (lb a + 1) * 8 ^ (l1 ++ k :: l2).length = ((lb a + 1) * 8 ^ l1.length * 8) * 8 ^ l2.length := by
      rw [List.length_append, List.length_cons, Nat.pow_add, Nat.pow_succ]
      simp only [Nat.mul_assoc, Nat.mul_comm, Nat.mul_left_comm]
    rw [e, Nat.add_mul_div_right _ _ hp]
    omega
theorem wyE_dig (hb : ∀ k, lb k ≤ 4) (h5 : ∀ t, t < 3 → (cr_g s t).length ≤ 5) {t i : Nat} (ht : t < 3) (hi : i < 5) : wyE lb s / 8 ^ (5 * t + i) % 8 = wyL lb (cr_g s t) / 8 ^ i % 8 := by
  have a := wyL_lt5 hb (h5 0 (by decide))
  have b := wyL_lt5 hb (h5 1 (by decide))
  have c := wyL_lt5 hb (h5 2 (by decide))
  unfold wyE
  rcases i3 ht with rfl | rfl | rfl <;> rcases (show i = 0 ∨ i = 1 ∨ i = 2 ∨ i = 3 ∨ i = 4 by omega) with rfl | rfl | rfl | rfl | rfl <;> simp only [Nat.reduceMul, Nat.reduceAdd, Nat.reducePow] <;> omega
theorem wyE_lt (hb : ∀ k, lb k ≤ 4) (h5 : ∀ t, t < 3 → (cr_g s t).length ≤ 5) : wyE lb s < 2 ^ 45 := by
  have a := wyL_lt5 hb (h5 0 (by decide))
  have b := wyL_lt5 hb (h5 1 (by decide))
  have c := wyL_lt5 hb (h5 2 (by decide))
  unfold wyE
  omega
theorem wyE_top (hb : ∀ k, lb k ≤ 4) (h5 : ∀ t, t < 3 → (cr_g s t).length ≤ 5) {t k : Nat} {l1 l2 : List Nat} (ht : t < 3) (hg : cr_g s t = l1 ++ k :: l2) : wyE lb s / 8 ^ (5 * t + l2.length) % 8 = lb k + 1 := by
  have := h5 t ht
  have hl : (cr_g s t).length = l1.length + (l2.length + 1) := by rw [hg]; simp
  rw [wyE_dig hb h5 ht (by omega), hg]
  exact wyL_at hb l1
theorem wyE_0 (hb : ∀ k, lb k ≤ 4) (h5 : ∀ t, t < 3 → (cr_g s t).length ≤ 5) {t i : Nat} (ht : t < 3) (hi : i < 5) (h : (cr_g s t).length ≤ i) : wyE lb s / 8 ^ (5 * t + i) % 8 = 0 := by
  rw [wyE_dig hb h5 ht hi]
  exact wyL_hi hb h
theorem wyE_pop {f k : Nat} {l : List Nat} (hf : f < 3) (hg : cr_g s f = k :: l) : wyE lb s = wyE lb (cr_p s f l) + (lb k + 1) * 8 ^ (5 * f + l.length) := by
  have e : wyL lb (cr_g s f) = wyL lb l + (lb k + 1) * 8 ^ l.length := by rw [hg]; rfl
  unfold wyE
  rcases i3 hf with rfl | rfl | rfl
  · rw [cr_gs (by decide), cr_go (by decide) (by decide) (by decide), cr_go (by decide) (by decide) (by decide), e, show 5 * 0 + l.length = l.length by omega]
    omega
  · rw [cr_gs (by decide), cr_go (by decide) (by decide) (by decide), cr_go (by decide) (by decide) (by decide), e, Nat.pow_add, Nat.mul_add]
    have : (lb k + 1) * (8 ^ (5 * 1) * 8 ^ l.length) = 32768 * ((lb k + 1) * 8 ^ l.length) := by rw [Nat.mul_left_comm]
    omega
  · rw [cr_gs (by decide), cr_go (by decide) (by decide) (by decide), cr_go (by decide) (by decide) (by decide), e, Nat.pow_add, Nat.mul_add]
    have : (lb k + 1) * (8 ^ (5 * 2) * 8 ^ l.length) = 1073741824 * ((lb k + 1) * 8 ^ l.length) := by rw [Nat.mul_left_comm]
    omega
theorem wyE_u : wyE lb (cr_u s) = wyE lb s := by unfold wyE; rw [cr_gu, cr_gu, cr_gu]
theorem wyL_z : ∀ l, wyL lb l = 0 → l = [] := by
  intro l h
  cases l with
  | nil => rfl
  | cons k l =>
    have h : wyL lb l + (lb k + 1) * 8 ^ l.length = 0 := h
    have : 0 < (lb k + 1) * 8 ^ l.length := Nat.mul_pos (by omega) (Nat.pow_pos (by decide))
    omega
theorem wyE_z : wyE lb s = 0 ↔ cr_e s := by
  unfold wyE
  constructor
  · intro h i hi
    rcases i3 hi with rfl | rfl | rfl <;> exact wyL_z (lb := lb) _ (by omega)
  · intro h
    rw [h 0 (by decide), h 1 (by decide), h 2 (by decide)]; rfl
theorem wyL_inj (hb : ∀ k, lb k ≤ 4) (hj : ∀ k k', k < cnt → k' < cnt → lb k = lb k' → k = k') : ∀ l l', (∀ x, x ∈ l → x < cnt) → (∀ x, x ∈ l' → x < cnt) → l.length = l'.length → wyL lb l = wyL lb l' → l = l' := by
  intro l
  induction l with
  | nil =>
    intro l' _ _ h _
    exact (List.eq_nil_of_length_eq_zero h.symm).symm
  | cons k l ih =>
    intro l' h1 h2 hl he
    cases l' with
    | nil => simp at hl
    | cons k' l' =>
      simp only [List.length_cons] at hl
      have hl : l.length = l'.length := by omega
      have he : wyL lb l + (lb k + 1) * 8 ^ l.length = wyL lb l' + (lb k' + 1) * 8 ^ l'.length := he
      have hp : 0 < 8 ^ l.length := Nat.pow_pos (by decide)
      have a := wyL_lt hb l
      have b := wyL_lt hb l'
      rw [← hl] at he b
      have e1 : lb k + 1 = lb k' + 1 := by
        have := congrArg (fun z => z / 8 ^ l.length) he
        simp only [Nat.add_mul_div_right _ _ hp, Nat.div_eq_of_lt a, Nat.div_eq_of_lt b] at this
        omega
      have e2 : k = k' := hj k k' (h1 k List.mem_cons_self) (h2 k' List.mem_cons_self) (by omega)
      subst e2
      rw [ih l' (fun x hx => h1 x (List.mem_cons_of_mem _ hx)) (fun x hx => h2 x (List.mem_cons_of_mem _ hx)) hl (by omega)]
theorem wyL_len (hb : ∀ k, lb k ≤ 4) {l l' : List Nat} (he : wyL lb l = wyL lb l') (h : l.length < l'.length) : False := by
  cases l' with
  | nil => simp at h
  | cons k l' =>
    simp only [List.length_cons] at h
    have a := wyL_lt hb l
    have he : wyL lb l = wyL lb l' + (lb k + 1) * 8 ^ l'.length := he
    have b : 8 ^ l.length ≤ 8 ^ l'.length := Nat.pow_le_pow_right (by decide) (by omega)
    have c : 1 * 8 ^ l'.length ≤ (lb k + 1) * 8 ^ l'.length := Nat.mul_le_mul_right _ (by omega)
    omega
theorem wyE_inj (hb : ∀ k, lb k ≤ 4) (hj : ∀ k k', k < cnt → k' < cnt → lb k = lb k' → k = k') (h5 : cnt ≤ 5) (hV : cr_V cnt s) (hV' : cr_V cnt s') (h : wyE lb s = wyE lb s') : s = s' := by
  have l5 : ∀ t, t < 3 → (cr_g s t).length ≤ 5 := fun t ht => by have := V_len hV ht; omega
  have l5' : ∀ t, t < 3 → (cr_g s' t).length ≤ 5 := fun t ht => by have := V_len hV' ht; omega
  have a0 := wyL_lt5 hb (l5 0 (by decide))
  have a1 := wyL_lt5 hb (l5 1 (by decide))
  have a2 := wyL_lt5 hb (l5 2 (by decide))
  have b0 := wyL_lt5 hb (l5' 0 (by decide))
  have b1 := wyL_lt5 hb (l5' 1 (by decide))
  have b2 := wyL_lt5 hb (l5' 2 (by decide))
  unfold wyE at h
  have e : ∀ t, t < 3 → wyL lb (cr_g s t) = wyL lb (cr_g s' t) := by
    intro t ht
    rcases i3 ht with rfl | rfl | rfl <;> omega
  have g : ∀ t, t < 3 → cr_g s t = cr_g s' t := by
    intro t ht
    refine wyL_inj hb hj _ _ (fun x hx => (V_mem hV ht hx).2) (fun x hx => (V_mem hV' ht hx).2) ?_ (e t ht)
    rcases Nat.lt_trichotomy (cr_g s t).length (cr_g s' t).length with z | z | z
    · exact (wyL_len hb (e t ht) z).elim
    · exact z
    · exact (wyL_len hb (e t ht).symm z).elim
  refine cr_ext ?_ g
  have x := hV.2
  have y := hV'.2
  rw [g 0 (by decide), g 1 (by decide), g 2 (by decide)] at x
  omega
end
