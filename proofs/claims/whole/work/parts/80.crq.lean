/-! CRANES: the two queries -/
section
variable {n p b d sh : Nat} {R Y : Nat → Nat} {r : Rr} {g : Gi} {j : Gl}
theorem LF.em {g0 g g' : Gi} (ha : Ag g0 g) (h11 : g 263 11 = nI 0) (h7 : g 0 7 = g0 0 7) (h : LF g g') : Ag g0 g' ∧ g' 263 11 = nI 0 ∧ g' 0 7 = g0 0 7 := ⟨ha.tr h.ag, by rw [h 263 11 (by omega)]; exact h11, by rw [h 0 7 (by omega)]; exact h7⟩
theorem q_fewest (x1 : Int32) (h4 : R 4 ≤ 3) (hR : RO b R) (hY : YO n R Y) : PQ n p b R Y r (d + 64) 93 209 [.int x1] := by
  rcases in_or x1 (n := R 4) (by omega) with ⟨k, hk, rfl⟩ | ho
  · have hs : k < 3 := by omega
    by_cases hp : ∃ l c, cr_q (crF R Y k) (crE R Y k) l c (cr0 R Y k)
    · obtain ⟨N, hD⟩ := D_ex hp
      have h30 := cr_30 hR hY hs hD
      refine ⟨nI N, nI 0, e0, fun g j hV => X_fewest_y hV hk hD, fun g j hV => ?_⟩
      refine vX10_fewest_0 (M_good fun g2 ha ht2 h7 => M_isShip (hV.ag ha) (fun k' hk' e => ⟨fun a => absurd a n10, fun _ => M_layWays (d := d + 59) (hV.ag ha) hk (fun tb fl fa g3 j3 S hL hq => ⟨fun a => absurd a n10, fun _ => ?_⟩) (fun g3 j3 hL hno => ?_)⟩) (fun o => (o k hk rfl).elim))
      · obtain ⟨q, hq, eq, _⟩ := hq
        have hV3 := (hV.ag ha).ag hL.ag
        have hji : ∀ k1 k', k1 < ctC R Y k → k' < ctC R Y k → labK R Y k k1 = labK R Y k k' → k1 = k' := fun k1 k' h1 h2 h3 => lab_inj hR hY hs h1 h2 h3
        obtain ⟨e272, _⟩ := S.1.2.2.2.2.2 q hq (by rw [eq]; exact fun z => by cases z)
        rw [S.2.2.2.2.1]
        refine M_placeIn labK4 hji (ct5 hR) S.1 hq eq (IX_l hq ?_)
        obtain ⟨m1, m2, m3⟩ := LF.em ha ht2 h7 hL
        rw [e272, S.eq hq eq (by omega) hD]
        exact ⟨rfl, rfl, m1, m2, m3⟩
      · obtain ⟨l, c, hq⟩ := hp
        exact absurd hq (hno l c)
    · have hno : ∀ l c, ¬ cr_q (crF R Y k) (crE R Y k) l c (cr0 R Y k) := fun l c z => hp ⟨l, c, z⟩
      refine ⟨-(nI 2), nI 0, e0, fun g j hV => X_fewest_n hV hk hno, fun g j hV => ?_⟩
      refine vX10_fewest_0 (M_good fun g2 ha ht2 h7 => M_isShip (hV.ag ha) (fun k' hk' e => ⟨fun a => absurd a n10, fun _ => M_layWays (d := d + 59) (hV.ag ha) hk (fun tb fl fa g3 j3 S hL hq => ?_) (fun g3 j3 hL _ => ⟨fun _ => ?_, fun a => absurd n00 a⟩)⟩) (fun o => (o k hk rfl).elim))
      · obtain ⟨q, hq, eq, hlt⟩ := hq
        obtain ⟨l, hl⟩ := (S.D hq eq hlt).1
        exact absurd hl (hno l _)
      · obtain ⟨m1, m2, m3⟩ := LF.em ha ht2 h7 hL
        exact ⟨rfl, rfl, m1, m2, m3⟩
  · refine ⟨-1, nI 1, e1, fun g j hV => ?_, fun g j hV => ?_⟩
    · exact vX9_fewest_0 (X_noShip hV (fun k hk e => (ho k hk e).elim) (fun o => ⟨fun a => absurd a n10, fun _ => X_ref Ag.rf⟩))
    · exact vX10_fewest_0 (M_good fun g2 ha ht2 h7 => M_isShip (hV.ag ha) (fun k hk e => (ho k hk e).elim) (fun o => ⟨fun _ => M_no ha h7, fun a => absurd n00 a⟩))
theorem q_liftAt (x1 x2 : Int32) (h4 : R 4 ≤ 3) (hR : RO b R) (hY : YO n R Y) : PQ n p b R Y r (d + 64) 94 211 [.int x1, .int x2] := by
  rcases in_or x1 (n := R 4) (by omega) with ⟨k, hk, rfl⟩ | ho
  · have hs : k < 3 := by omega
    by_cases hp : ∃ l c, cr_q (crF R Y k) (crE R Y k) l c (cr0 R Y k)
    · obtain ⟨N, hD⟩ := D_ex hp
      have h30 := cr_30 hR hY hs hD
      obtain ⟨ps, hL⟩ := L_ex (fun k' => (crE_b (R := R) (Y := Y) (sh := k) k').1) N N (cr0 R Y k) (Nat.le_refl _) hD
      have hlen := L_len (fun k' => (crE_b (R := R) (Y := Y) (sh := k) k').1) ps _ N hL hD
      have main : ∀ v e : Int32, (∀ i c, ps[i]? = some c → x2 = nI i → v = nI c ∧ e = nI 0) → (out x2 ps.length → v = -1 ∧ e = nI 1) → ∀ g j, Vw n p b R Y r g → Cm (d + 64) 211 [.ref 263, .int (nI k), .int x2] r g j (rkI (EM v e r g)) := by
        intro v e h1 h2 g j hV
        refine vX10_liftAt_0 (M_good fun g2 ha ht2 h7 => M_isShip (hV.ag ha) (fun k' hk' _ => ⟨fun a => absurd a n10, fun _ => M_layWays (d := d + 59) (hV.ag ha) hk (fun tb fl fa g3 j3 S hLf hq => ⟨fun a => absurd a n10, fun _ => ?_⟩) (fun g3 j3 hLf hno => ?_)⟩) (fun o => (o k hk rfl).elim))
        · obtain ⟨q, hq, eq, _⟩ := hq
          obtain ⟨m1, m2, m3⟩ := LF.em ha ht2 h7 hLf
          rw [S.2.2.2.2.1]
          refine M_liftLoop (d := d + 60) ((hV.ag ha).ag hLf.ag) hs S ps _ q N 0 hq eq hD h30 (by omega) hL (fun i' z => by omega) (fun i' c z1 z2 => ?_) (fun o => ?_)
          · rw [Nat.zero_add] at z2
            obtain ⟨rfl, rfl⟩ := h1 i' c z1 z2
            exact ⟨rfl, rfl, m1, m2, m3⟩
          · rw [Nat.zero_add] at o
            obtain ⟨rfl, rfl⟩ := h2 o
            exact vX10_liftAt_91 (M_no m1 m3)
        · obtain ⟨l, c, hq⟩ := hp
          exact absurd hq (hno l c)
      rcases in_or x2 (n := ps.length) (by omega) with ⟨i, hi, rfl⟩ | o
      · have hc : ps[i]? = some ps[i] := List.getElem?_eq_getElem hi
        have a1 : ∀ i' c, ps[i']? = some c → nI i = nI i' → nI ps[i] = nI c ∧ nI 0 = nI 0 := by
          intro i' c z1 z2
          have hi' : i' < ps.length := by
            rw [← Nat.not_le]; intro z; rw [List.getElem?_eq_none z] at z1; cases z1
          rw [nI_eq (by omega) (by omega)] at z2
          subst z2
          rw [hc] at z1
          simp only [Option.some.injEq] at z1
          exact ⟨by rw [z1], rfl⟩
        have a2 : out (nI i) ps.length → nI ps[i] = -1 ∧ nI 0 = nI 1 := fun o => (o i hi rfl).elim
        exact ⟨nI ps[i], nI 0, e0, fun g j hV => X_liftAt_y hV hk hD hL a1 a2, main _ _ a1 a2⟩
      · have a1 : ∀ i' c, ps[i']? = some c → x2 = nI i' → (-1 : Int32) = nI c ∧ nI 1 = nI 0 := by
          intro i' c z1 z2
          have hi' : i' < ps.length := by
            rw [← Nat.not_le]; intro z; rw [List.getElem?_eq_none z] at z1; cases z1
          exact (o i' hi' z2).elim
        exact ⟨-1, nI 1, e1, fun g j hV => X_liftAt_y hV hk hD hL a1 (fun _ => ⟨rfl, rfl⟩), main _ _ a1 (fun _ => ⟨rfl, rfl⟩)⟩
    · have hno : ∀ l c, ¬ cr_q (crF R Y k) (crE R Y k) l c (cr0 R Y k) := fun l c z => hp ⟨l, c, z⟩
      refine ⟨-1, nI 6, e6, fun g j hV => X_liftAt_n hV hk hno, fun g j hV => ?_⟩
      refine vX10_liftAt_0 (M_good fun g2 ha ht2 h7 => M_isShip (hV.ag ha) (fun k' hk' e => ⟨fun a => absurd a n10, fun _ => M_layWays (d := d + 59) (hV.ag ha) hk (fun tb fl fa g3 j3 S hL hq => ?_) (fun g3 j3 hL _ => ⟨fun _ => ?_, fun a => absurd n00 a⟩)⟩) (fun o => (o k hk rfl).elim))
      · obtain ⟨q, hq, eq, hlt⟩ := hq
        obtain ⟨l, hl⟩ := (S.D hq eq hlt).1
        exact absurd hl (hno l _)
      · obtain ⟨m1, m2, m3⟩ := LF.em ha ht2 h7 hL
        exact M_no m1 m3
  · refine ⟨-1, nI 1, e1, fun g j hV => ?_, fun g j hV => ?_⟩
    · exact vX9_liftAt_0 (X_noShip hV (fun k hk e => (ho k hk e).elim) (fun o => ⟨fun a => absurd a n10, fun _ => X_ref Ag.rf⟩))
    · exact vX10_liftAt_0 (M_good fun g2 ha ht2 h7 => M_isShip (hV.ag ha) (fun k hk e => (ho k hk e).elim) (fun o => ⟨fun _ => M_no ha h7, fun a => absurd n00 a⟩))
theorem o_fewest (hn : n + 1 ≤ 512) (hJ : J n r g) (x1 : Int32) : OPi (d + 64) 93 209 [.int x1] n r g j := OPi.of hn hJ fun p b R Y hV => q_fewest x1 hV.b4 hV.ro hV.yo
theorem o_liftAt (hn : n + 1 ≤ 512) (hJ : J n r g) (x1 x2 : Int32) : OPi (d + 64) 94 211 [.int x1, .int x2] n r g j := OPi.of hn hJ fun p b R Y hV => q_liftAt x1 x2 hV.b4 hV.ro hV.yo
end
