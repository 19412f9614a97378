/-! CRANES, the class: rankOf, load, canCome -/
theorem exc_in {a k : Nat} (h : 73 ≤ a ∧ a ≤ 80) : exc a k = true := by
  unfold exc
  rw [Nat.ble_eq_true_of_le h.1, Nat.ble_eq_true_of_le h.2]
  simp
theorem lsF_ex {R Y : Nat → Nat} {k v : Nat} : ∀ m, lsF R Y k v m = 0 ↔ ∀ i, i < m → ¬ nbA R Y k i < v := by
  intro m
  induction m with
  | zero => exact ⟨fun _ i hi => by omega, fun _ => rfl⟩
  | succ m ih =>
    constructor
    · intro h i hi
      have h : (if lsF R Y k v m = 0 then (if nbA R Y k m < v then 1 else 0) else 1) = 0 := h
      by_cases c : lsF R Y k v m = 0
      · rw [if_pos c] at h
        by_cases e : i = m
        · subst e
          intro z
          rw [if_pos z] at h; omega
        · exact ih.mp c i (by omega)
      · rw [if_neg c] at h; omega
    · intro h
      show (if lsF R Y k v m = 0 then (if nbA R Y k m < v then 1 else 0) else 1) = 0
      rw [if_pos (ih.mpr fun i hi => h i (by omega)), if_neg (h m (by omega))]
section
variable {n p b d sh : Nat} {R Y : Nat → Nat} {r : Rr} {g g0 g' : Gi} {j : Gl} {K : Int32 → Rr → Gi → Gl → Prop}
theorem X_rankOf (hV : Vw n p b R Y r g) {c : Nat} (hc : c < R 5) (hs : R (22 + 5 * c) = sh) (h4 : rkC R Y sh c ≤ 4) (h : K (nI (rkC R Y sh c)) r g j) : Cm (d + 1) 17 [.ref p, .ref 62, .int (nI c)] r g j (rkI K) := by
  have h5 := hV.b5
  have pc := hV.px.2.2.1 c hc
  have rc := hV.ro.2.2.2.2.1 c hc
  have hb4 := hV.b4
  have loop : ∀ q m, m + q = R 5 → G (d + 1) 17 5 [(0, .ref p), (1, .ref 62), (2, .int (nI c)), (3, .int (nI (rkF R Y sh c m))), (4, .int (nI m))] [] r g j (rkI K) := by
    intro q
    induction q with
    | zero =>
      intro m hm
      have : m = R 5 := by omega
      subst this
      refine vX3_rankOf_5 (OB_i (SH_p hV.hp) ⟨fun _ => ?_, fun a => absurd ?_ a⟩)
      · rw [if_neg (nI_nlt h4 (by decide))]; exact h
      · rw [hV.px.1.2.2.2.2.2.1]; exact Int32.le_refl _
    | succ q ih =>
      intro m hm
      have ih := ih (m + 1) (by omega)
      have es : rkF R Y sh c (m + 1) = rkF R Y sh c m + (if onS R Y sh m ∧ R (23 + 5 * m) < R (23 + 5 * c) then 1 else 0) := rfl
      have pm := hV.px.2.2.1 m (by omega)
      have rm := hV.ro.2.2.2.2.1 m (by omega)
      have e66 : g 66 m = nI (Y m) := (hV.yx.2.2.2.2 m (by omega)).1
      have yo := (hV.yo.2.2.2.2.2.2.2.1 m (by omega)).1
      have skip : ¬ (onS R Y sh m ∧ R (23 + 5 * m) < R (23 + 5 * c)) → G (d + 1) 17 84 [(0, .ref p), (1, .ref 62), (2, .int (nI c)), (3, .int (nI (rkF R Y sh c m))), (4, .int (nI m))] [] r g j (rkI K) := by
        intro z
        rw [if_neg z, Nat.add_zero] at es
        rw [es] at ih
        refine vX3_rankOf_84 ?_
        rw [nI_add]; exact ih
      have no : ¬ onS R Y sh m → G (d + 1) 17 51 [(0, .ref p), (1, .ref 62), (2, .int (nI c)), (3, .int (nI (rkF R Y sh c m))), (4, .int (nI m))] [] r g j (rkI K) := fun z => vX3_rankOf_51 (vX3_rankOf_52 ⟨fun _ => skip fun y => z y.1, fun a => absurd n00 a⟩)
      refine vX3_rankOf_5 (OB_i (SH_p hV.hp) ⟨fun a => ?_, fun _ => crate_f hV.hp rfl (by omega) (crate_f hV.hp rfl (by omega) ?_)⟩)
      · rw [hV.px.1.2.2.2.2.2.1] at a; exact absurd a (nI_ge (by omega) (by omega))
      rw [pm.2.1, pc.2.1]
      refine ⟨fun a => IX_l (by omega) ?_, fun a => no fun z => ?_⟩
      · rw [nI_eq (by omega) (by omega)] at a
        rw [e66]
        refine ⟨fun a2 => no fun z => ?_, fun a2 => vX3_rankOf_52 ⟨fun z => absurd z n10, fun _ => crate_f hV.hp rfl (by omega) (crate_f hV.hp rfl (by omega) ?_)⟩⟩
        · have := le_n (by decide) (by omega) a2
          have := z.2
          omega
        · have ho : onS R Y sh m := ⟨by omega, by rw [← Nat.not_le]; exact fun z => a2 (nI_le z (by omega))⟩
          rw [pm.2.2.1, pc.2.2.1]
          refine ⟨fun a3 => skip fun z => ?_, fun a3 => ?_⟩
          · have := le_n (by omega) (by omega) a3
            have := z.2
            omega
          · have z : onS R Y sh m ∧ R (23 + 5 * m) < R (23 + 5 * c) := ⟨ho, by rw [← Nat.not_le]; exact fun z => a3 (nI_le z (by omega))⟩
            rw [if_pos z] at es
            rw [es] at ih
            refine vX3_rankOf_84 ?_
            rw [nI_add, nI_add]; exact ih
      · rw [nI_eq (by omega) (by omega)] at a
        have := z.1
        omega
  exact vX3_rankOf_0 (loop (R 5) 0 (by omega))
theorem X_effort {c : Nat} (hV : Vw n p b R Y r g) (hc : c < R 5) (h : K (nI (if R (21 + 5 * c) = 3 then 2 else 1)) r g j) : Cm d 1 [.ref (p + 13 + c)] r g j (rkI K) := by
  have h5 := hV.b5
  have pc := hV.px.2.2.1 c hc
  have rc := hV.ro.2.2.2.2.1 c hc
  refine vX0_effort_0 (OB_i (SH_cr hV.hp (by omega)) ?_)
  rw [pc.1, nI_eq (by omega) (by decide)]
  refine ⟨fun a => ?_, fun a => ?_⟩
  · rw [if_pos a] at h; exact h
  · rw [if_neg a] at h; exact h
/-- what load has done so far -/
def LdI (R Y : Nat → Nat) (sh t i : Nat) (g : Gi) : Prop := ∀ t' i', t' < 3 → (t' < t ∨ (t' = t ∧ i' < i)) → i' < Y (120 + (3 * sh + t')) → g 75 (5 * t' + i') = nI (rkC R Y sh (lyC Y (3 * sh + t') i')) ∧ g 77 (rkC R Y sh (lyC Y (3 * sh + t') i')) = nI (crE R Y sh (rkC R Y sh (lyC Y (3 * sh + t') i'))) ∧ g 78 (rkC R Y sh (lyC Y (3 * sh + t') i')) = nI (if crF R Y sh (rkC R Y sh (lyC Y (3 * sh + t') i')) = 0 then 0 else 1)
def ccF (Y : Nat → Nat) (sh : Nat) : Nat → Nat
  | 0 => 0
  | t + 1 => ccF Y sh t + Y (120 + (3 * sh + t))
theorem X_load {K : Rr → Gi → Gl → Prop} (hV : Vw n p b R Y r g) (hsh : sh < R 4) (h : ∀ g', (∀ a k, ¬ (75 ≤ a ∧ a ≤ 78) → ¬ (a = 73 ∧ k = 8) → g' a k = g a k) → g' 73 8 = nI (ctC R Y sh) → OT (cr0 R Y sh) g' → (∀ k, k < ctC R Y sh → g' 77 k = nI (crE R Y sh k) ∧ g' 78 k = nI (if crF R Y sh k = 0 then 0 else 1)) → K r g' j) : Cm (d + 2) 16 [.ref 73, .ref p, .ref 62, .int (nI sh)] r g j (rkV K) := by
  have h5 := hV.b5
  have hb4 := hV.b4
  have hs3 : sh < 3 := by omega
  have hc5 := ct5 (Y := Y) (sh := sh) hV.ro
  have hyo := hV.yo
  have hro := hV.ro
  have fr : ∀ gg, (∀ a k, ¬ (75 ≤ a ∧ a ≤ 78) → ¬ (a = 73 ∧ k = 8) → gg a k = g a k) → Vw n p b R Y r gg := fun gg hf => hV.ag fun a k e => hf a k (fun z => by rw [exc_in (by omega)] at e; cases e) (fun z => by rw [z.1, z.2] at e; cases e)
  have loop : ∀ q t gg, t + q = 3 → (∀ a k, ¬ (75 ≤ a ∧ a ≤ 78) → ¬ (a = 73 ∧ k = 8) → gg a k = g a k) → gg 73 8 = nI (ccF Y sh t) → (∀ t', t' < t → gg 76 t' = nI (Y (120 + (3 * sh + t')))) → LdI R Y sh t 0 gg → G (d + 2) 16 8 [(0, .ref 73), (1, .ref p), (2, .ref 62), (3, .int (nI sh)), (4, .int (nI t))] [] r gg j (rkV K) := by
    intro q
    induction q with
    | zero =>
      intro t gg ht hf h8 h76 hL
      have : t = 3 := by omega
      subst this
      refine vX3_load_8 ⟨fun _ => ?_, fun a => absurd (Int32.le_refl _) a⟩
      have hct : ccF Y sh 3 = ctC R Y sh := by
        rw [← crL_len hyo hs3]
        unfold crL
        rw [List.length_append, List.length_append, stk_len, stk_len, stk_len]
        show 0 + Y (120 + (3 * sh + 0)) + Y (120 + (3 * sh + 1)) + Y (120 + (3 * sh + 2)) = _
        omega
      rw [hct] at h8
      refine h gg hf h8 (fun i hi => ?_) (fun k hk => ?_)
      · rw [cr0_g hi]
        refine ⟨by rw [stk_len]; exact h76 i hi, fun l1 k l2 hl => ?_⟩
        obtain ⟨e1, _, e3⟩ := stk_split _ _ hl
        rw [e1]
        exact (hL i l2.length hi (Or.inl hi) e3).1
      · obtain ⟨i, hi, hm⟩ := V_in (V0 hro hyo hs3) (x := k) (Nat.zero_le _) hk
        rw [cr0_g hi] at hm
        obtain ⟨q, q1, q2⟩ := (stk_mem _ _).mp hm
        have := (hL i q hi (Or.inl hi) q1).2
        rw [← q2] at this
        exact this
    | succ q ih =>
      intro t gg ht hf h8 h76 hL
      have ht3 : t < 3 := by omega
      have hh := hyo.h5 (3 * sh + t) (by omega)
      refine vX3_load_8 ⟨fun a => absurd a (nI_ge ht3 (by decide)), fun _ => X_height (fr gg hf) hs3 ht3 (IX_l ht3 ?_)⟩
      rw [if_neg (nI_nlt hh (by decide))]
      have inner : ∀ q2 i g2, i + q2 = Y (120 + (3 * sh + t)) → (∀ a k, ¬ (75 ≤ a ∧ a ≤ 78) → ¬ (a = 73 ∧ k = 8) → g2 a k = g a k) → g2 73 8 = nI (ccF Y sh t + i) → (∀ t', t' < t + 1 → g2 76 t' = nI (Y (120 + (3 * sh + t')))) → LdI R Y sh t i g2 → G (d + 2) 16 39 [(0, .ref 73), (1, .ref p), (2, .ref 62), (3, .int (nI sh)), (4, .int (nI t)), (5, .int (nI (Y (120 + (3 * sh + t))))), (6, .int (nI i))] [] r g2 j (rkV K) := by
        intro q2
        induction q2 with
        | zero =>
          intro i g2 hi hf2 h82 h762 hL2
          have : i = Y (120 + (3 * sh + t)) := by omega
          subst this
          refine vX3_load_39 ⟨fun _ => ?_, fun a => absurd (Int32.le_refl _) a⟩
          rw [nI_add]
          refine ih (t + 1) g2 (by omega) hf2 h82 h762 (fun t' i' z1 z2 z3 => hL2 t' i' z1 ?_ z3)
          rcases z2 with z2 | ⟨_, z2⟩
          · rcases Nat.lt_or_ge t' t with c | c
            · exact Or.inl c
            · have : t' = t := by omega
              subst this
              exact Or.inr ⟨rfl, z3⟩
          · omega
        | succ q2 ih2 =>
          intro i g2 hi hf2 h82 h762 hL2
          have hiY : i < Y (120 + (3 * sh + t)) := by omega
          have ho := ly_on hyo hs3 ht3 hiY
          have hr := rk_ct ho.1 ho.2.1
          have ek := crK_rk hro ho.1 ho.2.1
          have rc := hro.2.2.2.2.1 _ ho.1
          have hV2 := fr g2 hf2
          refine vX3_load_39 ⟨fun a => absurd a (nI_ge hiY (by omega)), fun _ => X_crateAt hV2 hs3 ht3 hiY ?_⟩
          rw [show Y (75 + 5 * (3 * sh + t) + i) - 1 = lyC Y (3 * sh + t) i from rfl]
          refine X_rankOf (c := lyC Y (3 * sh + t) i) hV2 ho.1 ho.2.1.1 (by omega) (IX_e (q := 5 * t + i) (by rw [pk_mul, nI_add, Nat.mul_comm]) (by omega) ?_)
          refine crate_f hV2.hp rfl (by omega) ?_
          have hV3 : Vw n p b R Y r (uI g2 75 (5 * t + i) (nI (rkC R Y sh (lyC Y (3 * sh + t) i)))) := fr _ fun a k z1 z2 => by rw [uI_o (by omega)]; exact hf2 a k z1 z2
          refine X_effort hV3 ho.1 (IX_l (by omega) (crate_f hV2.hp rfl (by omega) ?_))
          have e0 : (uI (uI g2 75 (5 * t + i) (nI (rkC R Y sh (lyC Y (3 * sh + t) i)))) 77 (rkC R Y sh (lyC Y (3 * sh + t) i)) (nI (if R (21 + 5 * lyC Y (3 * sh + t) i) = 3 then 2 else 1))) (p + 13 + lyC Y (3 * sh + t) i) 0 = nI (R (21 + 5 * lyC Y (3 * sh + t) i)) := by
            rw [uI_o (by have := hV2.hp; omega), uI_o (by have := hV2.hp; omega)]
            exact (hV2.px.2.2.1 _ ho.1).1
          have e1 : (if R (21 + 5 * lyC Y (3 * sh + t) i) = 3 then 2 else 1) = crE R Y sh (rkC R Y sh (lyC Y (3 * sh + t) i)) := by unfold crE; rw [ek]
          have e2 : crF R Y sh (rkC R Y sh (lyC Y (3 * sh + t) i)) = 0 ↔ ¬ R (21 + 5 * lyC Y (3 * sh + t) i) = 2 := by
            unfold crF; rw [ek]
            by_cases c : R (21 + 5 * lyC Y (3 * sh + t) i) = 2
            · rw [if_pos c]
              constructor
              · intro z; split at z <;> omega
              · intro z; exact absurd c z
            · rw [if_neg c]
              exact ⟨fun _ => c, fun _ => rfl⟩
          rw [e0, e1, nI_eq (by omega) (by decide)]
          have fin : ∀ w, w = (if crF R Y sh (rkC R Y sh (lyC Y (3 * sh + t) i)) = 0 then 0 else 1) → G (d + 2) 16 122 [(0, .ref 73), (1, .ref p), (2, .ref 62), (3, .int (nI sh)), (4, .int (nI t)), (5, .int (nI (Y (120 + (3 * sh + t))))), (6, .int (nI i))] [.int (nI w), .int (nI (rkC R Y sh (lyC Y (3 * sh + t) i))), .ref 78] r (uI (uI g2 75 (5 * t + i) (nI (rkC R Y sh (lyC Y (3 * sh + t) i)))) 77 (rkC R Y sh (lyC Y (3 * sh + t) i)) (nI (crE R Y sh (rkC R Y sh (lyC Y (3 * sh + t) i))))) j (rkV K) := by
            intro w hw
            refine vX3_load_122 ⟨?_, IX_l (by omega) ?_⟩
            · rw [hw]; split
              · exact bo0
              · exact bo1
            rw [uI_o (show (73 : Nat) ≠ 77 by decide), uI_o (show (73 : Nat) ≠ 75 by decide), h82, nI_add, nI_add]
            refine ih2 (i + 1) _ (by omega) (fun a k z1 z2 => ?_) uI_s (fun t' z => ?_) (fun t' i' z1 z2 z3 => ?_)
            · rw [uI_d z2, uI_o (by omega), uI_o (by omega), uI_o (by omega)]; exact hf2 a k z1 z2
            · rw [uI_o (by decide), uI_o (by decide), uI_o (by decide), uI_o (by decide)]; exact h762 t' z
            · have hh' := hyo.h5 (3 * sh + t') (by omega)
              by_cases c : t' = t ∧ i' = i
              · obtain ⟨rfl, rfl⟩ := c
                refine ⟨by rw [uI_o (by decide), uI_o (by decide), uI_o (by decide), uI_s], by rw [uI_o (by decide), uI_o (by decide), uI_s], by rw [uI_o (by decide), uI_s, hw]⟩
              · have old := hL2 t' i' z1 (by omega) z3
                refine ⟨by rw [uI_o (by decide), uI_o (by decide), uI_o (by decide), uI_n (by omega)]; exact old.1, ?_, ?_⟩
                · rw [uI_o (by decide), uI_o (by decide)]
                  by_cases c2 : rkC R Y sh (lyC Y (3 * sh + t') i') = rkC R Y sh (lyC Y (3 * sh + t) i)
                  · rw [c2, uI_s]
                  · rw [uI_n c2, uI_o (by decide)]; exact old.2.1
                · rw [uI_o (by decide)]
                  by_cases c2 : rkC R Y sh (lyC Y (3 * sh + t') i') = rkC R Y sh (lyC Y (3 * sh + t) i)
                  · rw [c2, uI_s, hw]
                  · rw [uI_n c2, uI_o (by decide), uI_o (by decide)]; exact old.2.2
          refine ⟨fun a => fin 1 ?_, fun a => fin 0 ?_⟩
          · rw [if_neg (fun z => e2.mp z a)]
          · rw [if_pos (e2.mpr a)]
      refine inner (Y (120 + (3 * sh + t))) 0 _ (by omega) (fun a k z1 z2 => ?_) (by rw [uI_o (by decide)]; exact h8) (fun t' z => ?_) (fun t' i' z1 z2 z3 => ?_)
      · rw [uI_o (by omega)]; exact hf a k z1 z2
      · by_cases c : t' = t
        · subst c; exact uI_s
        · rw [uI_n c]; exact h76 t' (by omega)
      · rw [uI_o (by decide), uI_o (by decide), uI_o (by decide)]
        exact hL t' i' z1 (by omega) z3
  refine vX3_load_0 (loop 3 0 _ (by decide) (fun a k z1 z2 => uI_d z2) uI_s (fun t' z => by omega) (fun t' i' z1 z2 z3 => by omega))
theorem X_canCome (hV : Vw n p b R Y r g) (hsh : sh < R 4) (h1 : ¬ cr_x (crF R Y sh) (cr0 R Y sh) → K (nI 1) r g j) (h0 : cr_x (crF R Y sh) (cr0 R Y sh) → K (nI 0) r g j) : Cm (d + 2) 18 [.ref p, .ref 62, .int (nI sh)] r g j (rkI K) := by
  have h5 := hV.b5
  have hb4 := hV.b4
  have hs3 : sh < 3 := by omega
  have hyo := hV.yo
  have hro := hV.ro
  rw [cr_x0 hro hyo hs3] at h1 h0
  have loop : ∀ q t, t + q = 3 → (∀ t' i', t' < t → i' < Y (120 + (3 * sh + t')) → ¬ badC R Y sh t' i') → G (d + 2) 18 2 [(0, .ref p), (1, .ref 62), (2, .int (nI sh)), (3, .int (nI t))] [] r g j (rkI K) := by
    intro q
    induction q with
    | zero =>
      intro t ht hb
      have : t = 3 := by omega
      subst this
      exact vX3_canCome_2 ⟨fun _ => ⟨bo1, h1 (fun ⟨t, i, z1, z2, z3⟩ => hb t i z1 z2 z3)⟩, fun a => absurd (Int32.le_refl _) a⟩
    | succ q ih =>
      intro t ht hb
      have ht3 : t < 3 := by omega
      have hh := hyo.h5 (3 * sh + t) (by omega)
      have inner : ∀ q2 i, i + q2 = Y (120 + (3 * sh + t)) → (∀ i', i' < i → ¬ badC R Y sh t i') → G (d + 2) 18 10 [(0, .ref p), (1, .ref 62), (2, .int (nI sh)), (3, .int (nI t)), (4, .int (nI i))] [] r g j (rkI K) := by
        intro q2
        induction q2 with
        | zero =>
          intro i hi hb2
          have : i = Y (120 + (3 * sh + t)) := by omega
          subst this
          refine vX3_canCome_10 (X_height hV hs3 ht3 ⟨fun _ => ?_, fun a => absurd (Int32.le_refl _) a⟩)
          rw [nI_add]
          refine ih (t + 1) (by omega) (fun t' i' z1 z2 => ?_)
          by_cases c : t' = t
          · subst c; exact hb2 i' z2
          · exact hb t' i' (by omega) z2
        | succ q2 ih2 =>
          intro i hi hb2
          have hiY : i < Y (120 + (3 * sh + t)) := by omega
          have ho := ly_on hyo hs3 ht3 hiY
          have rc := hro.2.2.2.2.1 _ ho.1
          have next : ¬ badC R Y sh t i → G (d + 2) 18 81 [(0, .ref p), (1, .ref 62), (2, .int (nI sh)), (3, .int (nI t)), (4, .int (nI i))] [] r g j (rkI K) := by
            intro z
            refine vX3_canCome_81 ?_
            rw [nI_add]
            refine ih2 (i + 1) (by omega) (fun i' z1 => ?_)
            by_cases c : i' = i
            · subst c; exact z
            · exact hb2 i' (by omega)
          have hx := hV.yx.2.2.2.2 _ ho.1
          have yo8 := hyo.2.2.2.2.2.2.2.1 _ ho.1
          have hn := hV.nn
          refine vX3_canCome_10 (X_height hV hs3 ht3 ⟨fun a => absurd a (nI_ge hiY (by omega)), fun _ => X_crateAt hV hs3 ht3 hiY ?_⟩)
          rw [show Y (75 + 5 * (3 * sh + t) + i) - 1 = lyC Y (3 * sh + t) i from rfl]
          refine crate_f (c := lyC Y (3 * sh + t) i) hV.hp rfl (by omega) ?_
          rw [(hV.px.2.2.1 _ ho.1).1, nI_eq (by omega) (by decide)]
          refine ⟨fun a => vX3_canCome_50 ⟨fun z => absurd z n10, fun _ => IX_l (by omega) ?_⟩, fun a => vX3_canCome_50 ⟨fun _ => next fun z => a z.1, fun z => absurd n00 z⟩⟩
          rw [show g 67 (lyC Y (3 * sh + t) i) = _ from hx.2.1, ← nI_0]
          refine ⟨fun a2 => ⟨bo0, h0 ⟨t, i, ht3, hiY, a, Or.inl (lt_n (by decide) (by omega) a2)⟩⟩, fun a2 => X_lies_lesser hV hs3 ht3 hiY ?_⟩
          have a2 : Y (15 + lyC Y (3 * sh + t) i) = 0 := by
            rcases Nat.eq_zero_or_pos (Y (15 + lyC Y (3 * sh + t) i)) with z | z
            · exact z
            · exact absurd (nI_lt z (by omega)) a2
          refine ⟨fun a3 => next fun z => ?_, fun a3 => ⟨bo0, h0 ⟨t, i, ht3, hiY, a, Or.inr ?_⟩⟩⟩
          · have a3 : lsF R Y (3 * sh + t) (nbA R Y (3 * sh + t) i) i = 0 := by
              rcases lsF_01 R Y (3 * sh + t) (nbA R Y (3 * sh + t) i) i with c | c
              · exact c
              · rw [c] at a3; exact absurd a3 n10
            rcases z.2 with z2 | ⟨m, z2, z3⟩
            · omega
            · exact (lsF_ex i).mp a3 m z2 z3
          · apply Classical.byContradiction
            intro z
            apply a3
            have zz : lsF R Y (3 * sh + t) (nbA R Y (3 * sh + t) i) i = 0 := (lsF_ex i).mpr (fun m hm z2 => z ⟨m, hm, z2⟩)
            rw [zz]
      exact vX3_canCome_2 ⟨fun a => absurd a (nI_ge ht3 (by decide)), fun _ => inner (Y (120 + (3 * sh + t))) 0 (by omega) (fun i' z => by omega)⟩
  exact vX3_canCome_0 (loop 3 0 (by decide) (fun t' i' z => by omega))
end
