/-! led: what the reference says (the class's half has its throw, and is not done by the abstract machine) -/
def bkF (Y : Nat → Nat) : Nat → Nat
  | 0 => 0
  | c + 1 => bkF Y c + (if Y (30 + c) = 0 then 0 else 1)
theorem bkF_le (Y : Nat → Nat) : ∀ c, bkF Y c ≤ c := by
  intro c
  induction c with
  | zero => exact Nat.le_refl _
  | succ c ih => show bkF Y c + _ ≤ _; split <;> omega
section
variable {n p b d : Nat} {R Y : Nat → Nat} {r : Rr} {g : Gi} {j : Gl} {x : Int32}
theorem M_led {K : Int32 → Rr → Gi → Gl → Prop} (h5 : R 5 ≤ 15) (hb : b = 0 → R 5 = 0) (h14 : g 263 14 = nI b) (hbb : b = 0 ∨ b = 1) (hr : ∀ k, k < 348 → g 266 k = nI (R k)) (hy : ∀ k, k < 246 → g 268 k = nI (Y k)) (hl : ∀ c, c < R 5 → Y (30 + c) ≤ 1)
    (h1 : ∀ c, c < R 5 → Y (30 + c) = 1 → x = nI (bkF Y c) → K (nI c) r (uI g 263 0 (nI 0)) j) (h0 : (∀ c, c < R 5 → Y (30 + c) = 1 → x ≠ nI (bkF Y c)) → K (nI 0) r (uI g 263 0 (nI 1)) j) : Cm d 250 [.ref 263, .int x] r g j (rkI K) := by
  have loop : ∀ w c, c + w = R 5 → (∀ c', c' < c → Y (30 + c') = 1 → x ≠ nI (bkF Y c')) → G d 250 4 [(0, .ref 263), (1, .int x), (2, .int (nI (bkF Y c))), (3, .int (nI c))] [] r g j (rkI K) := by
    intro w
    induction w with
    | zero =>
      intro c hc hno
      have : c = R 5 := hc
      subst this
      refine vX10_led_4 ⟨fun _ => vX10_led_57 (h0 hno), fun _ => IX_l (by decide) ⟨fun _ => vX10_led_57 (h0 hno), fun y => absurd ?_ y⟩⟩
      rw [hr 5 (by decide)]; exact Int32.le_refl _
    | succ w ih =>
      intro c hc hno
      have b1 : b = 1 := by rcases hbb with z | z
                            · have := hb z; omega
                            · exact z
      have bl := bkF_le Y c
      refine vX10_led_4 ⟨fun y => ?_, fun _ => IX_l (by decide) ⟨fun y => ?_, fun _ => IX_e (q := 30 + c) (by rw [nI_add]) (by omega) ?_⟩⟩
      · rw [h14, b1] at y; exact absurd y n10
      · rw [hr 5 (by decide), nI_leI (by omega) (by omega)] at y; omega
      · rw [hy _ (by omega)]
        have h2 := hl c (by omega)
        have next : (Y (30 + c) = 1 → x ≠ nI (bkF Y c)) → ∀ v, v = bkF Y (c + 1) → G d 250 51 [(0, .ref 263), (1, .int x), (2, .int (nI v)), (3, .int (nI c))] [] r g j (rkI K) := by
          intro hn v hv
          subst hv
          refine vX10_led_51 ?_
          rw [nI_add]
          refine ih (c + 1) (by omega) (fun c' hc' => ?_)
          by_cases z : c' = c
          · subst z; exact hn
          · exact hno c' (by omega)
        rcases Nat.lt_or_ge 0 (Y (30 + c)) with z | z
        · have z1 : Y (30 + c) = 1 := by omega
          rw [z1]
          refine ⟨fun y => absurd y n10, fun _ => ⟨fun y => h1 c (by omega) z1 y.symm, fun y => ?_⟩⟩
          rw [nI_add]
          refine next (fun _ e => y e.symm) _ ?_
          show _ = bkF Y c + (if Y (30 + c) = 0 then 0 else 1)
          rw [if_neg (by omega)]
        · have z1 : Y (30 + c) = 0 := by omega
          rw [z1]
          refine ⟨fun _ => next (fun e => by omega) _ ?_, fun y => absurd n00 y⟩
          show _ = bkF Y c + (if Y (30 + c) = 0 then 0 else 1)
          rw [if_pos z1]; rfl
  exact vX10_led_0 (loop (R 5) 0 (by omega) (fun c' hc' => by omega))
end
