/-! query: wayAt -/
def nxP (R : Nat → Nat) (t a e : Nat) : Prop := 0 < wF R a e ∧ wF R a e + fwF R 5 e t = fwF R 5 a t
def lsP (R : Nat → Nat) (t a e : Nat) : Prop := e < 5 ∧ nxP R t a e ∧ ∀ e', e' < e → ¬ nxP R t a e'
def wyR (R : Nat → Nat) (t : Nat) : Nat → Nat → Prop
  | 0, a => a = 0
  | k + 1, e => ∃ a, wyR R t k a ∧ a ≠ t ∧ lsP R t a e
section
variable {n p b d t : Nat} {R Y : Nat → Nat} {r : Rr} {g : Gi} {j : Gl} {K : Int32 → Rr → Gi → Gl → Prop} {x x1 x2 : Int32}
theorem lsP_u {a e e' : Nat} (h : lsP R t a e) (h' : lsP R t a e') : e = e' := by
  rcases Nat.lt_trichotomy e e' with c | c | c
  · exact absurd h.2.1 (h'.2.2 e c)
  · exact c
  · exact absurd h'.2.1 (h.2.2 e' c)
theorem wyR_u : ∀ k a a', wyR R t k a → wyR R t k a' → a = a' := by
  intro k
  induction k with
  | zero => intro a a' h h'; exact h.trans h'.symm
  | succ k ih =>
    rintro e e' ⟨a, h1, h2, h3⟩ ⟨a', h1', h2', h3'⟩
    have := ih a a' h1 h1'
    subst this
    exact lsP_u h3 h3'
theorem wyR_lt (h0 : fwF R 5 0 t < 1000000) : ∀ k a, wyR R t k a → a < 5 ∧ fwF R 5 a t < 1000000 ∧ k + nrF R t a ≤ 4 := by
  intro k
  induction k with
  | zero =>
    intro a h
    have h : a = 0 := h
    subst h
    exact ⟨by decide, h0, by have := nr_4 (R := R) (c := t) (show 0 < 5 by decide); omega⟩
  | succ k ih =>
    rintro e ⟨a, h1, h2, h3⟩
    have ha := ih a h1
    have hl : fwF R 5 e t < fwF R 5 a t := by have := h3.2.1; unfold nxP at this; omega
    have := nr_lt (R := R) (c := t) (a := a) h3.1 hl
    exact ⟨h3.1, by omega, by omega⟩
theorem nx_none {e : Nat} : ¬ nxP R t t e := fun h => by
  have := fw_z (R := R) t 5
  unfold nxP at h
  omega
theorem ls_ex (ht : t < 5) {a : Nat} (hl : fwF R 5 a t < 1000000) (hne : a ≠ t) : ∃ e, lsP R t a e := by
  obtain ⟨e, b1, b2, b3⟩ := fw_tight (R := R) 5 (Nat.le_refl _) a t ht hne hl
  have hf := fw_feas (R := R) (c := t) b1 b2
  obtain ⟨m, hm1, hm2⟩ := pk_least (fun e => e < 5 ∧ nxP R t a e) ⟨e, b1, b2, by omega⟩
  exact ⟨m, hm1.1, hm1.2, fun e' he' h => hm2 e' he' ⟨by omega, h⟩⟩
theorem wyR_dn {k : Nat} : ∀ m x, wyR R t (k + m) x → ∃ y, wyR R t k y := by
  intro m
  induction m with
  | zero => intro x h; exact ⟨x, h⟩
  | succ m ih =>
    rintro x ⟨a, h1, -⟩
    exact ih a h1
/-- what wayAt tells -/
def wyV (R : Nat → Nat) (t : Nat) (x v : Int32) : Prop := (∃ i a, x = nI i ∧ wyR R t i a ∧ v = nI a) ∨ ((∀ i a, wyR R t i a → x ≠ nI i) ∧ v = -1)
theorem wyV_u (h0 : fwF R 5 0 t < 1000000) {v w : Int32} (h : wyV R t x v) (h' : wyV R t x w) : v = w := by
  rcases h with ⟨i, a, e, h1, rfl⟩ | ⟨h1, rfl⟩ <;> rcases h' with ⟨i', a', e', h1', rfl⟩ | ⟨h1', rfl⟩
  · have b1 := wyR_lt h0 i a h1
    have b2 := wyR_lt h0 i' a' h1'
    have : i = i' := (nI_eq (by omega) (by omega)).mp (e.symm.trans e')
    subst this
    rw [wyR_u i a a' h1 h1']
  · exact absurd e (h1' i a h1)
  · exact absurd e' (h1 i' a' h1')
  · rfl
theorem wyV_ex (R : Nat → Nat) (t : Nat) (x : Int32) : ∃ v, wyV R t x v := by
  by_cases h : ∃ i a, x = nI i ∧ wyR R t i a
  · obtain ⟨i, a, h1, h2⟩ := h
    exact ⟨_, Or.inl ⟨i, a, h1, h2, rfl⟩⟩
  · exact ⟨_, Or.inr ⟨fun i a h2 h1 => h ⟨i, a, h1, h2⟩, rfl⟩⟩
theorem wyV_end {k : Nat} (hk : ∀ i, i < k → x ≠ nI i) (hx : x ≠ nI k) (ha : wyR R t k t) : wyV R t x (-1) := by
  refine Or.inr ⟨fun i a hi => ?_, rfl⟩
  rcases Nat.lt_trichotomy i k with c | c | c
  · exact hk i c
  · subst c; exact hx
  · exfalso
    obtain ⟨y, a', h1, h2, h3⟩ := wyR_dn (k := k + 1) (i - (k + 1)) a (by rw [show k + 1 + (i - (k + 1)) = i by omega]; exact hi)
    exact h2 (wyR_u k a' t h1 ha)
theorem road_i {i1 i2 : Int32} {a e : Nat} {K : Nat → Nat → Prop} (hp : p = 2 ∨ p = 30) (h1 : i1 = nI a) (h2 : i2 = nI e) (ha : a < 5) (he : e < 5) (h : K (p + 5 + a) e) : OB p 4 (RF (RS p 10) (r p 10) (fun u => AY u (fun t2 m => bif Nat.beq (fk (aT t2)) 2 then IX i1 m (fun q => RF (RS u q) (r u q) (fun z => AR z 0 (fun m => IX i2 m (fun q => K z q)))) else False))) :=
  OB_i (SH_p hp) (RF_i (Or.inl (RS_p10 hp)) (AY_i (SH_p4 hp) (IX_e h1 ha (RF_i (Or.inl (RS_rd hp ha)) (AR_i (SH_rd hp ha) (IX_e h2 he h))))))
theorem X_onward {a : Nat} (hV : Vw n p b R Y r g) (hD : Der b R g) (hb : b = 1) (ha : a < 5) (ht : t < 5) (h1 : ∀ e, lsP R t a e → K (nI e) r g j) (h0 : (∀ e, e < R 6 → ¬ nxP R t a e) → K (-1) r g j) : Cm d 6 [.ref 81, .ref p, .int (nI a), .int (nI t)] r g j (rkI K) := by
  have h6 := hV.b6
  have hM : ∀ a, a < 5 → fwF R 5 a t ≤ 1000000 := fun a ha => fw_M hV.w9 ha ht 5
  have loop : ∀ q e, e + q = R 6 → (∀ e', e' < e → ¬ nxP R t a e') → G d 6 3 [(0, .ref 81), (1, .ref p), (2, .int (nI a)), (3, .int (nI t)), (4, .int (nI e))] [] r g j (rkI K) := by
    intro q
    induction q with
    | zero =>
      intro e he hn
      have : e = R 6 := by omega
      subst this
      refine vX1_onward_3 (OB_i (SH_p hV.hp) ⟨fun _ => h0 hn, fun z => absurd ?_ z⟩)
      rw [hV.px.1.2.2.2.2.2.2.1]; exact Int32.le_refl _
    | succ q ih =>
      intro e he hn
      have hw9 := hV.w9 a e ha (by omega)
      have ew : g (p + 5 + a) e = nI (wF R a e) := hV.px.2.2.2.2 a e ha (by omega)
      have e1 : g (83 + e) t = nI (fwF R 5 e t) := (hD hb).1 e t (by omega) ht
      have e2 : g (83 + a) t = nI (fwF R 5 a t) := (hD hb).1 a t ha ht
      have hMe := hM e (by omega)
      have hMa := hM a ha
      have go : ¬ nxP R t a e → G d 6 54 [(0, .ref 81), (1, .ref p), (2, .int (nI a)), (3, .int (nI t)), (4, .int (nI e))] [] r g j (rkI K) := fun hx => by
        refine vX1_onward_54 ?_
        rw [nI_add]
        refine ih (e + 1) (by omega) (fun e' he' => ?_)
        by_cases c : e' = e
        · subst c; exact hx
        · exact hn e' (by omega)
      refine vX1_onward_3 (OB_i (SH_p hV.hp) ⟨fun z => ?_, fun _ => road_i hV.hp rfl rfl ha (by omega) ⟨fun z => go ?_, fun z => IX_l (by omega) (RF_i (Or.inl (RS82 (by omega))) (AR_i (SH83 (by omega)) (IX_l ht (IX_l ha (RF_i (Or.inl (RS82 ha)) (AR_i (SH83 ha) (IX_l ht ⟨fun z2 => h1 e ⟨by omega, ?_, hn⟩, fun z2 => go ?_⟩)))))))⟩⟩)
      · rw [hV.px.1.2.2.2.2.2.2.1] at z; exact absurd z (nI_ge (by omega) (by omega))
      · rw [ew, ← nI_0] at z
        have := le_n (by omega) (by decide) z
        intro hx; unfold nxP at hx; omega
      · rw [ew, e1, e2, nI_add, nI_eq (by omega) (by omega)] at z2
        rw [ew] at z
        have : 0 < wF R a e := by
          rcases Nat.eq_zero_or_pos (wF R a e) with c | c
          · rw [c, n00] at z; exact absurd (Int32.le_refl 0) z
          · exact c
        exact ⟨this, z2⟩
      · rw [ew, e1, e2, nI_add, nI_eq (by omega) (by omega)] at z2
        exact fun hx => z2 hx.2
  exact vX1_onward_0 (loop (R 6) 0 (by omega) (fun e' he' => by omega))
theorem X_townOn (hV : Vw n p b R Y r g) (hD : Der b R g) (hb : b = 1) (ht : t < R 6) (h0 : ¬ x2 < 0) (h1 : fwF R 5 0 t < 1000000 → ∀ v, wyV R t x2 v → K v r g j) (h2 : ¬ fwF R 5 0 t < 1000000 → K (-1) r g j) : Cm (d + 1) 5 [.ref 81, .ref p, .int (nI t), .int x2] r g j (rkI K) := by
  have h6 := hV.b6
  have e : g 83 t = nI (fwF R 5 0 t) := (hD hb).1 0 t (by decide) (by omega)
  have hM := fw_M hV.w9 (show 0 < 5 by decide) (show t < 5 by omega) 5
  refine vX1_townOnWay_0 (IX_l (by decide) (RF_i (Or.inl (RS82 (by decide))) (AR_i (SH83 (by decide)) (IX_l (by omega) ⟨fun a => ?_, fun a => ?_⟩))))
  · have a : g 83 t < nI 1000000 := a
    rw [e] at a
    have hl := lt_n (by omega) (by decide) a
    have h1 := h1 hl
    have loop : ∀ q k a, k + q = 4 → wyR R t k a → (∀ i, i < k → x2 ≠ nI i) → G (d + 1) 5 21 [(0, .ref 81), (1, .ref p), (2, .int (nI t)), (3, .int x2), (4, .int (nI a)), (5, .int (nI k))] [] r g j (rkI K) := by
      have fin : ∀ k a, k ≤ 4 → wyR R t k a → (∀ i, i < k → x2 ≠ nI i) → (∀ e, wyR R t (k + 1) e → (∀ i, i < k + 1 → x2 ≠ nI i) → G (d + 1) 5 21 [(0, .ref 81), (1, .ref p), (2, .int (nI t)), (3, .int x2), (4, .int (nI e)), (5, .int (nI (k + 1)))] [] r g j (rkI K)) → G (d + 1) 5 21 [(0, .ref 81), (1, .ref p), (2, .int (nI t)), (3, .int x2), (4, .int (nI a)), (5, .int (nI k))] [] r g j (rkI K) := by
        intro k a hk hw hx hgo
        have hb3 := wyR_lt hl k a hw
        refine vX1_townOnWay_21 ⟨fun z => absurd z (nI_ge (by omega) (by omega)), fun _ => ⟨fun z => h1 _ (Or.inl ⟨k, a, z.symm, hw, rfl⟩), fun z => ?_⟩⟩
        have hxk : x2 ≠ nI k := fun c => z c.symm
        refine X_onward hV hD hb hb3.1 (by omega) (fun e he => ⟨fun _ => ?_, fun z => absurd (ge0 (by have := he.1; omega)) z⟩) (fun hno => ⟨fun z => absurd z nge0, fun _ => h1 _ ?_⟩)
        · rw [nI_add]
          refine hgo e ⟨a, hw, fun c => ?_, he⟩ (fun i hi => ?_)
          · subst c; exact nx_none he.2.1
          · by_cases c : i = k
            · subst c; exact hxk
            · exact hx i (by omega)
        · by_cases c : a = t
          · subst c; exact wyV_end hx hxk hw
          · exfalso
            obtain ⟨e, he⟩ := ls_ex (show t < 5 by omega) hb3.2.1 c
            have : e < R 6 := by
              rcases Nat.lt_or_ge e (R 6) with c | c
              · exact c
              · have := hV.w0' a e hb3.1 he.1 c
                have := he.2.1.1
                omega
            exact hno e this he.2.1
      intro q
      induction q with
      | zero =>
        intro k a hk hw hx
        refine fin k a (by omega) hw hx (fun e he _ => ?_)
        have := wyR_lt hl (k + 1) e he
        omega
      | succ q ih =>
        intro k a hk hw hx
        exact fin k a (by omega) hw hx (fun e he hx => ih (k + 1) e (by omega) he hx)
    exact loop 4 0 0 (by decide) rfl (fun i hi => by omega)
  · have a : ¬ g 83 t < nI 1000000 := a
    rw [e] at a
    exact h2 (fun hl => a (nI_lt hl (by decide)))
theorem M_way_loop {g0 : Gi} {v : Int32} (hV : Vw n p b R Y r g) (ht : t < R 6) (hl : fwF R 5 0 t < 1000000) (hx0 : 0 ≤ x2) (hd : ∀ s, s < 5 → g 276 s = nI (fwF R 5 s t)) (hv : wyV R t x2 v) (ha : Ag g0 g) (h11 : g 263 11 = nI 0) (h7 : g 0 7 = g0 0 7) :
    ∀ q k a, k + q = 4 → wyR R t k a → (∀ i, i < k → x2 ≠ nI i) → G (d + 1) 229 35 [(0, .ref 263), (1, .int (nI t)), (2, .int x2), (3, .int (nI a)), (4, .int (nI k))] [] r g j (rkI (EM v (if v = -1 then nI 1 else nI 0) r g0)) := by
  have h6 := hV.b6
  have hM : ∀ a, a < 5 → fwF R 5 a t ≤ 1000000 := fun a ha => fw_M hV.w9 ha (show t < 5 by omega) 5
  have fin : ∀ k a, k ≤ 4 → wyR R t k a → (∀ i, i < k → x2 ≠ nI i) → (∀ e, wyR R t (k + 1) e → (∀ i, i < k + 1 → x2 ≠ nI i) → G (d + 1) 229 35 [(0, .ref 263), (1, .int (nI t)), (2, .int x2), (3, .int (nI e)), (4, .int (nI (k + 1)))] [] r g j (rkI (EM v (if v = -1 then nI 1 else nI 0) r g0))) → G (d + 1) 229 35 [(0, .ref 263), (1, .int (nI t)), (2, .int x2), (3, .int (nI a)), (4, .int (nI k))] [] r g j (rkI (EM v (if v = -1 then nI 1 else nI 0) r g0)) := by
    intro k a hk hw hx hgo
    have hb3 := wyR_lt hl k a hw
    refine vX10_wayAt_35 ⟨fun z => ?_, fun z => ?_⟩
    · have : x2 = nI k := by
        rcases in_or x2 (n := k + 1) (by omega) with ⟨i, hi, c⟩ | o
        · by_cases c2 : i = k
          · rw [c, c2]
          · exact absurd c (hx i (by omega))
        · exfalso
          have := out_c (by omega) o (nlt_le.mpr hx0)
          rw [Int32.le_iff_toInt_le, nI_toInt (by omega)] at this z
          omega
      have hva := wyV_u hl hv (Or.inl ⟨k, a, this, hw, rfl⟩)
      rw [hva, if_neg (nI_m1 (by omega))]
      exact ⟨rfl, rfl, ha, h11, h7⟩
    · have hxk : x2 ≠ nI k := fun c => by rw [c] at z; exact z (Int32.le_refl _)
      refine ⟨fun z2 => ?_, fun z2 => ?_⟩
      · rw [nI_eq (by omega) (by omega)] at z2
        subst z2
        have hva := wyV_u hl hv (wyV_end hx hxk hw)
        rw [hva, if_pos rfl]
        exact M_no ha h7
      · rw [nI_eq (by omega) (by omega)] at z2
        obtain ⟨e, he⟩ := ls_ex (show t < 5 by omega) hb3.2.1 z2
        have he5 := he.1
        have sl : ∀ q f, f + q = e → G (d + 1) 229 55 [(0, .ref 263), (1, .int (nI t)), (2, .int x2), (3, .int (nI a)), (4, .int (nI k)), (5, .int (nI f))] [] r g j (rkI (EM v (if v = -1 then nI 1 else nI 0) r g0)) := by
          intro q
          induction q with
          | zero =>
            intro f hf
            have : f = e := by omega
            subst this
            have hidx : nI 101 + nI 5 * nI a + nI f = nI (101 + 5 * a + f) := by rw [pk_mul, nI_add, nI_add]
            have ew : g 266 (101 + 5 * a + f) = nI (wF R a f) := hV.mr (by omega)
            have hw9 := hV.w9 a f hb3.1 he5
            have hMe := hM f he5
            have hpos := he.2.1.1
            refine vX10_wayAt_55 (IX_e hidx (by omega) ⟨fun c => ?_, fun c => IX_l he5 (IX_e hidx (by omega) (IX_l hb3.1 ⟨fun c2 => ?_, fun c2 => absurd ?_ c2⟩))⟩)
            · rw [ew, nI_z (by omega)] at c; omega
            · rw [nI_add]
              refine hgo f ⟨a, hw, z2, he⟩ (fun i hi => ?_)
              by_cases c : i = k
              · subst c; exact hxk
              · exact hx i (by omega)
            · rw [hd f he5, ew, hd a hb3.1, nI_add, Nat.add_comm, he.2.1.2]
          | succ q ih =>
            intro f hf
            have hidx : nI 101 + nI 5 * nI a + nI f = nI (101 + 5 * a + f) := by rw [pk_mul, nI_add, nI_add]
            have ew : g 266 (101 + 5 * a + f) = nI (wF R a f) := hV.mr (by omega)
            have hw9 := hV.w9 a f hb3.1 (by omega)
            have hMe := hM f (by omega)
            have hMa := hM a hb3.1
            have hno := he.2.2 f (by omega)
            have go : G (d + 1) 229 103 [(0, .ref 263), (1, .int (nI t)), (2, .int x2), (3, .int (nI a)), (4, .int (nI k)), (5, .int (nI f))] [] r g j (rkI (EM v (if v = -1 then nI 1 else nI 0) r g0)) := by
              refine vX10_wayAt_103 ?_
              rw [nI_add]; exact ih (f + 1) (by omega)
            refine vX10_wayAt_55 (IX_e hidx (by omega) ⟨fun c => go, fun c => IX_l (by omega) (IX_e hidx (by omega) (IX_l hb3.1 ⟨fun c2 => ?_, fun c2 => go⟩))⟩)
            rw [ew, nI_z (by omega)] at c
            rw [hd f (by omega), ew, hd a hb3.1, nI_add, nI_eq (by omega) (by omega)] at c2
            exact absurd ⟨by omega, by omega⟩ hno
        exact sl e 0 (by omega)
  intro q
  induction q with
  | zero =>
    intro k a hk hw hx
    refine fin k a (by omega) hw hx (fun e he _ => ?_)
    have := wyR_lt hl (k + 1) e he
    omega
  | succ q ih =>
    intro k a hk hw hx
    exact fin k a (by omega) hw hx (fun e he hx => ih (k + 1) e (by omega) he hx)
theorem q_wayAt (x1 x2 : Int32) (h6 : R 6 ≤ 5) : PD n p b R Y r (d + 3) 104 229 [.int x1, .int x2] := by
  rcases in_or x1 (n := R 6) (by omega) with ⟨t, ht, rfl⟩ | ho
  · by_cases hv : fwF R 5 0 t < 1000000 ∧ 0 ≤ x2
    · obtain ⟨hl, hx0⟩ := hv
      obtain ⟨v, hv⟩ := wyV_ex R t x2
      have hb4 : v = -1 ∨ (0 ≤ v ∧ v ≠ -1) := by
        rcases id hv with ⟨i, a, -, h1, rfl⟩ | ⟨-, rfl⟩
        · have := wyR_lt hl i a h1
          exact Or.inr ⟨ge0 (by omega), nI_m1 (by omega)⟩
        · exact Or.inl rfl
      refine ⟨v, if v = -1 then nI 1 else nI 0, by split; exact e1; exact e0, fun g j hV hD => ?_, fun g j hV => ?_⟩
      · have hb1 : b = 1 := by rcases hV.z 6 with h | h
                               · omega
                               · exact h
        refine vX9_wayAt_0 (X_noTown hV (fun _ _ _ => ⟨fun _ => ⟨fun _ => ⟨p, hV.rp, X_townOn hV hD hb1 ht (nlt_le.mpr hx0) (fun _ w hw => ?_) (fun c => absurd hl c)⟩, fun c => absurd hx0 c⟩, fun a => absurd n00 a⟩) (fun o => (o t ht rfl).elim))
        have := wyV_u hl hw hv
        subst this
        rcases hb4 with c | ⟨c, c2⟩
        · rw [c, if_pos rfl]
          exact ⟨fun z => absurd z nge0, fun _ => X_ref Ag.rf⟩
        · rw [if_neg c2]
          exact ⟨fun _ => X_ans Ag.rf, fun z => absurd c z⟩
      · refine vX10_wayAt_0 (M_good fun g2 ha ht2 h7 => M_isTown (hV.ag ha) (fun _ _ _ => ⟨fun a => absurd a n10, fun _ => M_lateOf (hV.ag ha) ht fun g3 ha3 h113 h73 hd => ⟨fun z => ?_, fun z => ⟨fun _ => M_way_loop ((hV.ag ha).ag ha3) ht hl hx0 hd hv (ha.tr ha3) (by rw [h113]; exact ht2) (by rw [h73]; exact h7) 4 0 0 (by decide) rfl (fun i hi => by omega), fun c => absurd hx0 c⟩⟩⟩) (fun o => (o t ht rfl).elim))
        unfold laV at z
        rw [if_pos hl] at z
        exact absurd z (nlt_0 (by omega))
    · refine ⟨-1, nI 1, e1, fun g j hV hD => ?_, fun g j hV => ?_⟩
      · have hb1 : b = 1 := by rcases hV.z 6 with h | h
                               · omega
                               · exact h
        exact vX9_wayAt_0 (X_noTown hV (fun _ _ _ => ⟨fun _ => ⟨fun c => ⟨p, hV.rp, X_townOn hV hD hb1 ht (nlt_le.mpr c) (fun c2 => absurd ⟨c2, c⟩ hv) (fun _ => ⟨fun z => absurd z nge0, fun _ => X_ref Ag.rf⟩)⟩, fun _ => vX9_wayAt_12 (X_ref Ag.rf)⟩, fun a => absurd n00 a⟩) (fun o => (o t ht rfl).elim))
      · refine vX10_wayAt_0 (M_good fun g2 ha ht2 h7 => M_isTown (hV.ag ha) (fun _ _ _ => ⟨fun a => absurd a n10, fun _ => M_lateOf (hV.ag ha) ht fun g3 ha3 h113 h73 hd => ⟨fun z => vX10_wayAt_24 (M_no (ha.tr ha3) (by rw [h73]; exact h7)), fun z => ⟨fun c => absurd ⟨?_, c⟩ hv, fun _ => vX10_wayAt_24 (M_no (ha.tr ha3) (by rw [h73]; exact h7))⟩⟩⟩) (fun o => (o t ht rfl).elim))
        unfold laV at z
        by_cases c : fwF R 5 0 t < 1000000
        · exact c
        · rw [if_neg c] at z; exact absurd (by decide +kernel) z
  · refine ⟨-1, nI 1, e1, fun g j hV hD => ?_, fun g j hV => ?_⟩
    · exact vX9_wayAt_0 (X_noTown hV (fun t ht e => (ho t ht e).elim) (fun o => ⟨fun a => absurd a n10, fun _ => vX9_wayAt_12 (X_ref Ag.rf)⟩))
    · exact vX10_wayAt_0 (M_good fun g2 ha ht2 h7 => M_isTown (hV.ag ha) (fun t ht e => (ho t ht e).elim) (fun o => ⟨fun _ => vX10_wayAt_24 (M_no ha h7), fun a => absurd n00 a⟩))
theorem o_wayAt (hn : n + 1 ≤ 512) (hJ : J n r g) (x1 x2 : Int32) : OPi (d + 3) 104 229 [.int x1, .int x2] n r g j := OPi.od hn hJ fun p b R Y hV hz => q_wayAt x1 x2 hV.b6
end
