/-! ACTS: dawn -/
section
variable {n p b d : Nat} {R Y Y' Z : Nat → Nat} {r : Rr} {g g' : Gi} {j : Gl} {K : Int32 → Rr → Gi → Gl → Prop}
/-- the reference's quay closes up behind the crate that is had -/
def shY (Y : Nat → Nat) (i c m : Nat) : Nat → Nat := fun k => if k = 147 + Y 145 then c + 1 else if k = c then 4 else if 129 + i ≤ k ∧ k + 1 < 129 + m then Y (k + 1) else Y k
theorem M_dsh {i c v : Nat} (h : YO n R Y) (h5 : R 5 ≤ 15) (hS : ∀ c, c < R 5 → R (22 + 5 * c) < 3) (hd : Y 145 ≤ 98) (hi : i < Y 144) (hc : Y (129 + i) = c)
    (hK : ∀ g', (∀ a k, a ≠ 268 → g' a k = g a k) → Ms g' (dn R (hv Y i c)) → K (nI v) r g' j) : ∀ q m gg, m + q = Y 144 → i < m → (∀ a k, a ≠ 268 → gg a k = g a k) → Ms gg (shY Y i c m) → G (d + 1) 245 103 [(0, .ref 263), (2, .int (nI v)), (4, .int (nI m))] [] r gg j (rkI K) := by
  have hq15 := h.q15
  have hci := h.2.2.2.2.1.2 i hi
  rw [hc] at hci
  have s144 : ∀ m, m ≤ Y 144 → shY Y i c m 144 = Y 144 := fun m hm => by unfold shY; rw [if_neg (by omega), if_neg (by omega), if_neg (by omega)]
  intro q
  induction q with
  | zero =>
    intro m gg hm him h1 h2
    have e144 := h2 144 (by decide)
    rw [s144 m (by omega)] at e144
    refine vX10_dawn_103 (IX_l (by decide) ⟨fun _ => IX_l (by decide) (IX_l (by decide) ?_), fun a => absurd ?_ a⟩)
    · rw [e144, pk_sub (by omega)]
      have hM : Ms (uI gg 268 144 (nI (Y 144 - 1))) (hv Y i c) := by
        refine (h2.u 144 (Y 144 - 1)).eq fun k => ?_
        have : m = Y 144 := by omega
        subst this
        by_cases e : k = 144
        · subst e
          rw [upN_s]; unfold hv
          rw [if_neg (by omega), if_neg (by omega), if_neg (by omega), if_pos rfl]
        · rw [upN_o e]
          unfold hv shY
          by_cases e1 : k = 147 + Y 145
          · rw [if_pos e1, if_pos e1]
          · rw [if_neg e1, if_neg e1]
            by_cases e2 : k = c
            · rw [if_pos e2, if_pos e2]
            · rw [if_neg e2, if_neg e2]
              by_cases e3 : 129 + i ≤ k ∧ k + 1 < 129 + Y 144
              · rw [if_pos e3, if_pos e3]
              · rw [if_neg e3, if_neg e3, if_neg e]
      have z := h.dw h5 hd hi hc hS
      have t144 : hv Y i c 144 = Y 144 - 1 := by unfold hv; rw [if_neg (by omega), if_neg (by omega), if_neg (by omega), if_pos rfl]
      have t145 : hv Y i c 145 = Y 145 := hv_o (by omega) (by omega) (by omega) (by omega) hq15
      have dq : ∀ k, k < 45 ∨ (60 ≤ k ∧ k ≠ 145) → dn R (hv Y i c) k = hv Y i c k := fun k hk => dn_o (by omega) (by omega)
      refine M_dinc hM h5 (by omega) (by omega) (fun i' hi' => ?_) (fun i' i'' hi' hi'' e => ?_) (fun c' hc' e => ?_) (fun g' ho hm => hK g' (fun a k ha => by rw [ho a k ha, uI_o ha]; exact h1 a k ha) hm)
      · have a := z.2.2.2.2.1.2 i' (by rw [dq 144 (by omega)]; exact hi')
        rw [dq (129 + i') (by omega)] at a
        rw [dq _ (by omega)] at a
        exact a
      · exact z.2.2.2.2.2.1 i' i'' (by rw [dq 144 (by omega)]; exact hi') (by rw [dq 144 (by omega)]; exact hi'') (by rw [dq (129 + i') (by omega), dq (129 + i'') (by omega)]; exact e)
      · obtain ⟨i', a1, a2⟩ := z.2.2.2.2.2.2.1 c' hc' (by rw [dq c' (by omega)]; exact e)
        rw [dq 144 (by omega)] at a1
        rw [dq (129 + i') (by omega)] at a2
        exact ⟨i', a1, a2⟩
    · rw [e144]; exact nI_le (by omega) (by omega)
  | succ q ih =>
    intro m gg hm him h1 h2
    have e144 := h2 144 (by decide)
    rw [s144 m (by omega)] at e144
    have em := h2 (129 + m) (by omega)
    have sm : shY Y i c m (129 + m) = Y (129 + m) := by unfold shY; rw [if_neg (by omega), if_neg (by omega), if_neg (by omega)]
    refine vX10_dawn_103 (IX_l (by decide) ⟨fun a => ?_, fun _ => IX_e (q := 129 + m) (nI_add 129 m) (by omega) (IX_e (q := 129 + m - 1) (by rw [nI_add, pk_sub (by omega)]) (by omega) ?_)⟩)
    · rw [e144] at a; exact absurd a (nI_ge (by omega) (by omega))
    · rw [nI_add, em, sm]
      refine ih (m + 1) _ (by omega) (by omega) (fun a k ha => by rw [uI_o ha]; exact h1 a k ha) ((h2.u (129 + m - 1) (Y (129 + m))).eq fun k => ?_)
      by_cases e : k = 129 + m - 1
      · subst e
        rw [upN_s]; unfold shY
        rw [if_neg (by omega), if_neg (by omega), if_pos (by omega), show 129 + m - 1 + 1 = 129 + m by omega]
      · rw [upN_o e]
        unfold shY
        by_cases e1 : k = 147 + Y 145
        · rw [if_pos e1, if_pos e1]
        · rw [if_neg e1, if_neg e1]
          by_cases e2 : k = c
          · rw [if_pos e2, if_pos e2]
          · rw [if_neg e2, if_neg e2]
            by_cases e3 : 129 + i ≤ k ∧ k + 1 < 129 + m
            · rw [if_pos e3, if_pos (by omega)]
            · rw [if_neg e3, if_neg (by omega)]
theorem o_dawn (hn : n + 1 ≤ 512) (hJ : J n r g) : OPi (d + 4) 113 245 [] n r g j := by
  refine OPi.mk hn hJ fun p p' b kc ic T R Y σ KY IY τ hX hM hP hF hV => ?_
  have hb := hP.hb
  have hk16 := hP.2.2.2.1.1
  have hi3 := hP.2.2.2.2.2.1.1
  have h4 := hb.1
  have h5 := hb.2
  have yo := hP.2.2.1
  have hd99 := yo.2.2.2.2.2.2.2.2.2.1.1
  have mv : ∀ kc KY g2, MS b kc ic T R Y KY IY τ g2 → Mv n b R Y g2 := fun _ _ g2 h => ⟨h.1, h.2.1, h.2.2.1, hP.1, hP.2.1, hP.2.2.1⟩
  have no : ∀ e : Int32, Cm (d + 3) 121 [.ref 0, .int e] r g j (rkI fun y17 r14 g15 j16 => rkI (fun v1 r1 g1 _ => v1 = -1 ∧ (∃ σ', XS p p' b kc ic T R Y σ' KY IY τ r1 g1) ∧ (∀ a k, 263 ≤ a → g1 a k = g a k) ∧ g1 0 7 = e ∧ g1 0 6 = g 0 6) (some (.int y17)) r14 g15 j16) := fun e =>
    vX9_refused_0 ⟨rfl, ⟨σ, hX.t7 hb hk16 hi3⟩, fun a k h => uI_d (by omega), uI_s, uI_n (by decide)⟩
  have mno : ∀ (e : Int32) (g0 g2 : Gi) (r : Rr) (j : Gl), MS b kc ic T R Y KY IY τ g2 → (∀ a k, a < 263 → g2 a k = g0 a k) → g2 263 9 = g0 263 9 → Cm (d + 3) 142 [.ref 263, .int e] r g2 j (rkI fun y14 r11 g12 j13 => rkI (fun v2 r2 g2 _ => v2 = -1 ∧ r2 = r ∧ MS b kc ic T R Y KY IY τ g2 ∧ (∀ a k, a < 263 → g2 a k = g0 a k) ∧ g2 263 11 = e ∧ g2 263 9 = g0 263 9) (some (.int y14)) r11 g12 j13) := fun e g0 g2 r j hM2 hmo h9 =>
    vX10_no_0 ⟨rfl, rfl, hM2.ag (Ag.rf.u rfl), fun a k h => by rw [uI_o (by omega)]; exact hmo a k h, uI_s, by rw [uI_n (by decide)]; exact h9⟩
  rcases hP.1 with b0 | hb1
  · refine ⟨-1, nI 1, kc, ic, T, Y, KY, IY, τ, e1, hP.up hn, ?_, fun r g j hM => ?_⟩
    · refine vX9_dawn_0 ⟨fun _ => no _, fun a => ?_⟩
      rw [hX.2.2.2.2.1, b0] at a; exact absurd n00 a
    · refine vX10_dawn_0 (hM.good fun g2 hM2 hmo h11 h9 => ⟨fun _ => mno _ g g2 _ _ hM2 hmo h9, fun a => ?_⟩)
      rw [hM2.2.2.1, b0] at a; exact absurd n00 a
  · have e629 : g 62 9 = nI (Y 145) := hV.yx.1.2.1
    by_cases hd : Y 145 = 99
    · refine ⟨-1, nI 3, kc, ic, T, Y, KY, IY, τ, e3, hP.up hn, ?_, fun r g j hM => ?_⟩
      · refine vX9_dawn_0 ⟨fun a => ?_, fun _ => ⟨fun a => ?_, fun _ => no _⟩⟩
        · rw [hX.2.2.2.2.1, hb1] at a; exact absurd a n10
        · rw [e629, hd] at a; exact absurd a (by decide +kernel)
      · refine vX10_dawn_0 (hM.good fun g2 hM2 hmo h11 h9 => ⟨fun a => ?_, fun _ => IX_l (by decide) ⟨fun _ => mno _ g g2 _ _ hM2 hmo h9, fun a => ?_⟩⟩)
        · rw [hM2.2.2.1, hb1] at a; exact absurd a n10
        · rw [hM2.2.1 145 (by decide), hd] at a; exact absurd rfl a
    · obtain ⟨v, hvv⟩ := dryF_ex R Y
      obtain ⟨Z, m, hZ⟩ := dwY_ex hvv
      have hS : ∀ c, c < R 5 → R (22 + 5 * c) < 3 := fun c hc => by have := (hP.2.1.2.2.2.2.1 c hc).2.1; omega
      have hyo : YO (n + 1) R Z := by
        rcases id hZ with ⟨i, hi, -, rfl, -⟩ | ⟨-, rfl, -⟩
        · exact yo.up.dw h5 (by omega) hi rfl hS
        · exact yo.up.dy h5 (by omega) hS
      refine ⟨nI m, nI 0, kk kc, ic, T, Z, kY kc KY Y, IY, τ, e0, hP.act hn hb1 hyo, ?_, fun r g j hM => ?_⟩
      · refine vX9_dawn_0 ⟨fun a => ?_, fun _ => ⟨fun _ => X_keepNow hX hb hk16 hi3 yo fun r' g' σ' hX' hxo h6 => ⟨p, hX'.1, X_breakDay (hX'.vw hV hxo) hvv hZ (by omega) fun g2 hy hfr => vX9_answered_0 ⟨rfl, ⟨σ', ?_⟩, fun a k h => ?_, uI_s, ?_⟩⟩, fun a => absurd ?_ a⟩⟩
        · rw [hX.2.2.2.2.1, hb1] at a; exact absurd a n10
        · exact XS.t7 (hX'.now hb (kk_le hk16) hi3 (fun a k h1 h2 h3 => hfr a k h2) hy) hb (kk_le hk16) hi3
        · rw [uI_d (by omega), hfr a k (by omega)]; exact hxo a k h
        · rw [uI_d (by omega), hfr 0 6 (by omega)]; exact h6
        · rw [e629]; exact nI_lt (by omega) (by omega)
      · refine vX10_dawn_0 (hM.good fun g2 hM2 hmo h11 h9 => ⟨fun a => ?_, fun _ => IX_l (by decide) ⟨fun a => ?_, fun _ => M_note hM2 hk16 fun g3 hM3 hmo3 h113 h93 => W_nextOnQuay (mv _ _ g3 hM3) fun w hw => ?_⟩⟩)
        · rw [hM2.2.2.1, hb1] at a; exact absurd a n10
        · rw [hM2.2.1 145 (by decide), nI_eq (by omega) (by decide)] at a; exact absurd a hd
        have hfin : ∀ g4, (∀ a k, a ≠ 268 → g4 a k = g3 a k) → Ms g4 Z → (nI m = nI m ∧ r = r ∧ MS b (kk kc) ic T R Z (kY kc KY Y) IY τ g4 ∧ (∀ a k, a < 263 → g4 a k = g a k) ∧ g4 263 11 = nI 0 ∧ g4 263 9 = g 263 9) := fun g4 hfr hms =>
          ⟨rfl, rfl, hM3.gen (fun a k h => hfr a k (by omega)) hms (hM3.2.2.2.1.eq (fun k => hfr 269 k (by decide)) (hfr 263 20 (by decide))) (hM3.2.2.2.2.1.eq (fun k => hfr 270 k (by decide)) (hfr 263 21 (by decide))), fun a k h => by rw [hfr a k (by omega), hmo3 a k h]; exact hmo a k h, by rw [hfr 263 11 (by decide), h113]; exact h11, by rw [hfr 263 9 (by decide), h93]; exact h9⟩
        have := dryF_u hvv hw
        subst this
        rcases hZ with ⟨i, hi, rfl, rfl, rfl⟩ | ⟨rfl, rfl, rfl⟩
        · have hq := yo.q15
          have hci := yo.2.2.2.2.1.2 i hi
          have e129 := hM3.2.1 (129 + i) (by omega)
          have e145 := hM3.2.1 145 (by decide)
          refine ⟨fun a => absurd a (nlt_0 (by omega)), fun _ => IX_e (q := 129 + i) (nI_add 129 i) (by omega) ?_⟩
          rw [e129]
          refine W_ofC hM3.1 (by omega) (by decide) (IX_l (by decide) (IX_e (q := 147 + Y 145) (by rw [e145, nI_add]) (by omega) (IX_e (q := Y (129 + i)) (by rw [nI_add]; congr 1; omega) (by omega) ?_)))
          rw [nI_add, nI_add, show 21 + 5 * Y (129 + i) + 2 = 23 + 5 * Y (129 + i) by omega]
          refine M_dsh (g := g3) yo h5 hS (by omega) hi rfl (fun g4 hfr hms => hfin g4 hfr hms) (Y 144 - (i + 1)) (i + 1) _ (by omega) (by omega) (fun a k ha => by rw [uI_o ha, uI_o ha]) (Ms.eq ((Ms.u hM3.2.1 (147 + Y 145) (Y (129 + i) + 1)).u (Y (129 + i)) 4) fun k => ?_)
          unfold shY
          by_cases e1 : k = 147 + Y 145
          · rw [if_pos e1, upN_o (by omega), e1, upN_s]
          · rw [if_neg e1]
            by_cases e2 : k = Y (129 + i)
            · rw [if_pos e2, e2, upN_s]
            · rw [if_neg e2, if_neg (by omega), upN_o e2, upN_o e1]
        · refine ⟨fun _ => M_dinc hM3.2.1 h5 yo.q15 (by omega) yo.2.2.2.2.1.2 yo.2.2.2.2.2.1 yo.2.2.2.2.2.2.1 (fun g4 hfr hms => hfin g4 hfr hms), fun a => absurd (by decide +kernel) a⟩
end
