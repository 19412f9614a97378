/-! THE START: the world as the constructors leave it; what the tables say at the law's entry -/
theorem sh_lt {a : Nat} {q : KD} (h : SH a = some q) : a < 278 := by
  rcases Nat.lt_or_ge a 278 with z | z
  · exact z
  · exfalso
    rcases Nat.lt_or_ge a 288 with y | y
    · have key : ∀ b, b < 10 → SH (278 + b) = none := by decide +kernel
      have := key (a - 278) (by omega)
      rw [show 278 + (a - 278) = a by omega, h] at this
      cases this
    · unfold SH at h
      have e1 : shLs[a / 16]? = none := List.getElem?_eq_none (by show 18 ≤ a / 16; omega)
      rw [e1] at h
      simp at h
theorem Wc.wd {D : va_G} {CA : Nat → ClassId} {B : Nat} {r : Rr} {g : Gi} {H : Heap} (h : Wc D CA B r g 278 H) (hrs : ∀ a k b, RS a k = some b → r a k = some b) : Wd D CA B r g (fun _ _ => 0) H :=
  ⟨fun a ci ha => h.2.1 a ci (sh_lt ha) ha, fun a t n ha => h.2.2.1 a t n (sh_lt ha) ha, hrs⟩
theorem blt_no {k n : Nat} (h : n ≤ k) : Nat.blt k n = false := by
  cases hh : Nat.blt k n with
  | false => rfl
  | true => exact absurd (Nat.le_of_ble_eq_true hh) (by omega)
theorem lk2_no {α : Type} {l : List (Nat × α)} {k : Nat} (h : ∀ q ∈ l, q.1 ≠ k) : lk2 l k = none := by
  cases hq : lk2 l k with
  | none => rfl
  | some v => exact absurd rfl (h _ (lk2_mem hq))
theorem ofL_lt (ci : Nat) : ∀ q ∈ (ofL[ci]?).getD [], q.1 < 40 := by
  have h0 : ofL.all (fun l => l.all (fun q => Nat.blt q.1 40)) = true := by decide +kernel
  intro q hq
  cases hc : ofL[ci]? with
  | none => rw [hc] at hq; simp at hq
  | some l =>
    rw [hc] at hq
    exact Nat.le_of_ble_eq_true (List.all_eq_true.mp (List.all_eq_true.mp h0 l (List.mem_of_getElem? hc)) q hq)
theorem RS_lt {a k b : Nat} (h : RS a k = some b) : a < 278 ∧ k < 40 := by
  have ha : a < 278 := by
    cases hs : SH a with
    | none => unfold RS at h; rw [hs] at h; cases h
    | some q => exact sh_lt hs
  refine ⟨ha, ?_⟩
  rcases Nat.lt_or_ge k 40 with z | z
  · exact z
  · exfalso
    unfold RS at h
    split at h
    · next ci _ =>
      have e1 : Nat.beq k 0 = false := beq_ne (by omega)
      rw [e1, Bool.and_false, cond_false, lk2_no (fun q hq => by have := ofL_lt ci q hq; omega)] at h
      cases h
    · rw [blt_no (by omega)] at h; cases h
    · rw [blt_no (by omega)] at h; cases h
    · rw [blt_no (by omega)] at h; cases h
    · rw [blt_no (by omega)] at h; cases h
    · cases h
def endR : Rr := modR 263 dayR
def endG : Gi := uI dG 263 10 (-1)
set_option maxRecDepth 100000 in
theorem rs_ok : (List.range 278).all (fun a => (List.range 40).all (fun k => match RS a k with
    | none => true
    | some b => decide (endR a k = some b))) = true := by decide +kernel
theorem endR_rs : ∀ a k b, RS a k = some b → endR a k = some b := by
  intro a k b h
  obtain ⟨h1, h2⟩ := RS_lt h
  have := List.all_eq_true.mp (List.all_eq_true.mp rs_ok a (List.mem_range.mpr h1)) k (List.mem_range.mpr h2)
  rw [h] at this
  exact of_decide_eq_true this
set_option maxRecDepth 100000 in
theorem endR_k : endR 0 2 = some 2 ∧ endR 0 3 = some 30 ∧ ∀ i, i < 16 → endR 71 i = some (92 + 9 * i) := by
  refine ⟨by decide +kernel, by decide +kernel, by decide +kernel⟩
theorem endG_0 {a k : Nat} (h1 : a ≠ 79) (h2 : a = 263 → k ≠ 10) : endG a k = nI 0 := by
  have hz : dG a k = nI 0 := by
    show uI (uI zG 79 1 (-2)) 79 2 (-2) a k = nI 0
    rw [uI_o h1, uI_o h1]
    exact nI_0.symm
  unfold endG
  by_cases e : a = 263
  · subst e; rw [uI_n (h2 rfl)]; exact hz
  · rw [uI_o e]; exact hz
theorem J_start {r : Rr} {g : Gi} (h2 : r 0 2 = some 2) (h3 : r 0 3 = some 30) (h71 : ∀ i, i < 16 → r 71 i = some (92 + 9 * i)) (hg : ∀ a k, a ≠ 79 → (a = 263 → k ≠ 10) → g a k = nI 0) : J 0 r g := by
  have z : ∀ a k, a < 79 → g a k = nI 0 := fun a k h => hg a k (by omega) (by omega)
  have y : ∀ a k, 264 ≤ a → g a k = nI 0 := fun a k h => hg a k (by omega) (by omega)
  have x : ∀ k, k ≠ 10 → g 263 k = nI 0 := fun k h => hg 263 k (by decide) (fun _ => h)
  refine ⟨2, 30, 0, 0, 0, 0, fun _ => 0, fun _ => 0, fun i => i, fun _ _ => 0, fun _ _ => 0, fun _ => 0, ?_, ⟨h3, Or.inl ⟨rfl, rfl⟩⟩, (fun h => absurd h (by decide)), ?_, ?_, ?_, ?_, fun _ _ => rfl⟩
  · refine ⟨h2, Or.inl rfl, ?_, ?_, fun k _ => y 266 k (by decide), fun k _ => y 268 k (by decide), ⟨z 0 5 (by decide), x 14 (by decide), Or.inl rfl⟩, ?_, ?_, by decide⟩
    · exact ⟨⟨z 2 0 (by decide), z 2 1 (by decide), z 2 2 (by decide), z 2 3 (by decide), z 2 5 (by decide), z 2 7 (by decide), z 2 9 (by decide), z 2 11 (by decide)⟩, fun s hs => absurd hs (Nat.not_lt_zero _), fun c hc => absurd hc (Nat.not_lt_zero _), fun t ht => absurd ht (Nat.not_lt_zero _), fun a b ha hb => z _ _ (by omega)⟩
    · exact ⟨⟨z 62 3 (by decide), z 62 9 (by decide), z 62 10 (by decide)⟩, fun k hk => ⟨z _ _ (by omega), fun i hi => absurd hi (Nat.not_lt_zero _)⟩, fun i hi => absurd hi (Nat.not_lt_zero _), fun c hc => z _ _ (by omega), fun c hc => absurd hc (Nat.not_lt_zero _)⟩
    · exact ⟨fun _ _ => rfl, (fun h => absurd h (by decide)), ⟨by decide, by decide, by decide, by decide, by decide, by decide, by decide, by decide⟩, fun s hs => absurd hs (Nat.not_lt_zero _), fun c hc => absurd hc (Nat.not_lt_zero _), fun c c' hc => absurd hc (Nat.not_lt_zero _), fun s => Nat.zero_le _, fun t ht => absurd ht (Nat.not_lt_zero _), fun a b _ _ => ⟨Nat.zero_le _, rfl, fun _ => rfl⟩, fun c _ => ⟨Nat.zero_le _, fun _ => rfl⟩⟩
    · exact ⟨fun k _ => ⟨Nat.zero_le _, fun _ => rfl, fun i hi => absurd hi (Nat.not_lt_zero _)⟩, fun k i i' _ hi => absurd hi (Nat.not_lt_zero _), fun k i _ _ _ => rfl, fun c hc => absurd hc (Nat.not_lt_zero _), ⟨Nat.zero_le _, fun i hi => absurd hi (Nat.not_lt_zero _)⟩, fun i i' hi => absurd hi (Nat.not_lt_zero _), fun c hc => absurd hc (Nat.not_lt_zero _), fun c hc => absurd hc (Nat.not_lt_zero _), fun c _ => ⟨Nat.zero_le _, fun _ => rfl⟩, ⟨Nat.zero_le _, fun d _ => ⟨Nat.zero_le _, fun h => absurd h (Nat.not_succ_le_zero 0)⟩⟩, fun d d' _ _ h => absurd h (Nat.not_succ_le_zero 0), ⟨Nat.zero_le _, fun c hc => absurd hc (Nat.not_lt_zero _)⟩⟩
  · refine ⟨by rw [z 0 6 (by decide), x 9 (by decide)], by rw [z 0 7 (by decide), x 11 (by decide)], fun h => ?_⟩
    rw [z 0 7 (by decide)] at h
    exact absurd h (by decide)
  · exact ⟨fun i hi => ⟨h71 i hi, hi⟩, fun i i' _ _ h => h, ⟨by decide, fun _ => rfl, z 0 10 (by decide), x 20 (by decide)⟩, fun i hi => absurd hi (Nat.not_lt_zero _)⟩
  · exact ⟨⟨by decide, fun _ => rfl, z 0 12 (by decide), x 21 (by decide)⟩, fun i hi => absurd hi (Nat.not_lt_zero _)⟩
  · exact ⟨⟨by decide, z 0 1 (by decide), x 2 (by decide)⟩, fun i hi => absurd hi (Nat.not_lt_zero _)⟩
/-! the tables at the law's entry -/
def flN : List Cond := flatC (Jvm.Cond.and given_1 narrow_1)
def rdL : List Nat := [119, 120, 122, 124, 126, 128, 154, 162, 166, 170, 182, 188, 192, 196, 245, 247, 249, 251, 209, 230, 234, 241, 253, 264, 266]
def moL : List Nat := [123, 125, 127, 129, 131, 133, 206, 212, 214, 216, 222, 224, 226, 228, 230, 232, 234, 236, 238, 240, 242, 244, 246, 251, 252]
def tmS (i : Nat) : Term := .string RX5 (rdL.getD i 0)
def tmV (i : Nat) : Term := .field (tmS i) "java/lang/String" "value" "[B"
def tzW (i : Nat) : List Cond := [.exactly (tmS i) "java/lang/String", .eq (.field (tmS i) "java/lang/String" "coder" "B") (.int 0), .arrayOf (tmV i) .byte, .eq (.length (tmV i)) (.int (Int32.ofNat (slen.getD i 0)))] ++ (List.range (slen.getD i 0)).map (fun j => .eq (.elem (tmV i) (.int (Int32.ofNat j))) (.int ((sbyt.getD i []).getD j 0)))
def stN : List Cond := (List.range 25).flatMap tzW
set_option maxRecDepth 1000000 in
theorem st_ok : decide ((flN.drop 61).take stN.length = stN) = true := by decide +kernel
theorem st_in' {i : Nat} (hi : i < 25) {w : Cond} (hw : w ∈ tzW i) : w ∈ flN := by
  have h1 : w ∈ stN := List.mem_flatMap.mpr ⟨i, List.mem_range.mpr hi, hw⟩
  rw [← of_decide_eq_true st_ok] at h1
  exact List.mem_of_mem_drop (List.mem_of_mem_take h1)
def eqI : List Nat := [306, 355, 365, 374, 383, 394, 316, 325, 334, 346, 402, 413, 422, 431, 441, 449, 459, 470, 477, 487, 494, 505, 516, 525, 535]
set_option maxRecDepth 1000000 in
theorem eq_ok : (List.range 25).all (fun i => decide (flN[eqI.getD i 0]? = some (.eq (tmS i) (.string RX10 (moL.getD i 0))))) = true := by decide +kernel
set_option maxRecDepth 1000000 in
theorem nz_ok : flN[4]? = some (.eq (.static "java/lang/String" "COMPACT_STRINGS" "Z") (.int 1)) ∧ flN[5]? = some (.isRef (.static "jdk/internal/util/Preconditions" "SIOOBE_FORMATTER" "Ljava/util/function/BiFunction;")) ∧ flN[9]? = some (.isRef (.static "java/lang/Throwable" "UNASSIGNED_STACK" "[Ljava/lang/StackTraceElement;")) ∧ flN[10]? = some (.isRef (.static "java/lang/Throwable" "SUPPRESSED_SENTINEL" "Ljava/util/List;")) ∧ flN[274]? = some (.exactly (.string RX9 355) "java/lang/String") := by and_intros <;> decide +kernel
set_option maxRecDepth 1000000 in
theorem cs_ok : (List.range 12).all (fun oc => ((csTL[oc]?).getD []).all (fun q => decide (wordAt q.2.2 = some (.stringRef (Rn oc) q.1 ((txL[q.2.1]?).getD ""))) && ((decide (oc = 5) && decide (q.1 = rdL.getD q.2.1 0)) || (decide (oc = 10) && decide (q.1 = moL.getD q.2.1 0))))) = true := by decide +kernel
set_option maxRecDepth 1000000 in
theorem zw_ok : wordAt 5140 = some (.laysStatic "java/lang/Throwable" "UNASSIGNED_STACK" "[Ljava/lang/StackTraceElement;") ∧ wordAt 5142 = some (.laysStatic "java/lang/Throwable" "SUPPRESSED_SENTINEL" "Ljava/util/List;") ∧ wordAt 1018 = some (.initialized "java/lang/Throwable") ∧ wordAt 1013 = some (.initialized "java/lang/String") ∧ wordAt 1015 = some (.initialized "jdk/internal/util/Preconditions") ∧ wordAt 5152 = some (.stringRef RX9 355 "no such broken crate") := by and_intros <;> decide +kernel
def insI : List Nat := [1075, 2134, 2109, 2067, 1031, 1192, 1042, 2145, 2016, 1023, 5179]
set_option maxRecDepth 1000000 in
theorem ins_ok : (List.range 11).all (fun ci => decide (wordAt (insI.getD ci 0) = some (.instantiable (Rn ci) (nf ci)))) = true := by decide +kernel
set_option maxRecDepth 1000000 in
theorem aw_ok : wordAt 1074 = some (.arrayClass .int) ∧ wordAt 1073 = some (.arrayClass .byte) ∧ wordAt 2107 = some (.arrayClass .boolean) ∧ wordAt 2014 = some (.arrayClass .long) ∧ wordAt 1037 = some (.arrayOver (.object "DayPort$Ship")) ∧ wordAt 1039 = some (.arrayOver (.object "DayPort$Crate")) ∧ wordAt 2065 = some (.arrayOver (.object "DayPort$Yard")) ∧ wordAt 1041 = some (.arrayOver (.array .int)) := by and_intros <;> decide +kernel
def nsI : List Nat := [1043, 1076, 2017, 2068, 2110, 2135, 2146]
set_option maxRecDepth 1000000 in
theorem ns_ok : nsL.length = nsI.length ∧ (nsL.zip nsI).all (fun q => decide (wordAt q.2 = some (.methodLinkNest q.1.1 q.1.2.1 q.1.2.2 "DayPort"))) = true := by and_intros <;> decide +kernel
set_option maxRecDepth 1000000 in
theorem lx_ok : lxW.length = 5 ∧ (lxW.zip [5140, 5142, 5117, 5119, 5121]).all (fun q => decide (wordAt q.2 = some q.1)) = true := by and_intros <;> decide +kernel
