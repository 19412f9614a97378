/-! the law: its arguments, and one case of its switch -/
def okArg (pc k : Nat) : Bool := decide (decode (mB 255) pc = .ok (.aload_n 0, 1)) && (decide (decode (mB 255) (pc + 1) = .ok (.iload 4, 2)) && (decide (decode (mB 255) (pc + 3) = .ok (.iconst k, 1)) && (decide (decode (mB 255) (pc + 4) = .ok (.iadd, 1)) && (decide (decode (mB 255) (pc + 5) = .ok (.iaload, 1)) && (decide (Int32.ofInt (k : Int) = nI k) && Nat.blt k 6)))))
def okA (pc k : Nat) (b : Bool) : Bool := bif b then okArg pc k && (decide (decode (mB 255) (pc + 6) = .ok (.ifCond .eq 7, 3)) && (decide (decode (mB 255) (pc + 9) = .ok (.iconst 1, 1)) && (decide (decode (mB 255) (pc + 10) = .ok (.goto 4, 3)) && decide (decode (mB 255) (pc + 13) = .ok (.iconst 0, 1))))) else okArg pc k
def nxA (pc : Nat) (b : Bool) : Nat := bif b then pc + 14 else pc + 6
def okArgs (pc : Nat) (al : List (Nat × Bool)) (pe : Nat) : Bool := match al with
  | [] => Nat.beq pc pe
  | q :: t => okA pc q.1 q.2 && okArgs (nxA pc q.2) t pe
def bo (x : Int32) : Int32 := if x = 0 then 0 else 1
def aV (xs : Nat → Int32) (i : Nat) (q : Nat × Bool) : Value := .int (bif q.2 then bo (xs (i + q.1)) else xs (i + q.1))
def argV (xs : Nat → Int32) (i : Nat) (al : List (Nat × Bool)) : List Value := al.map (aV xs i)
theorem argV_tr {B : Nat} {sa : Nat → Nat} {xs : Nat → Int32} {i : Nat} (al : List (Nat × Bool)) : (argV xs i al).map (tr B sa) = argV xs i al := by
  unfold argV
  rw [List.map_map]
  rfl
/-- what stands all the law long: the machine, the script, the world's base -/
def LC (p : Program) (s : State) (m : MethodId) (c : Code) (b L : Nat) (xs : Nat → Int32) (D : va_G) (CA : Nat → ClassId) (B : Nat) (sa sv : Nat → Nat) : Prop :=
  Fy p s m #[Value.ref b] c 255 D CA B sa sv ∧ va_X b L xs s s.heap ∧ b < s.heap.size ∧ s.heap.size = B ∧ L ≤ 3072
abbrev lvL (b B i : Nat) : List (Nat × Value) := [(0, .ref b), (1, .ref (B + 0)), (2, .ref (B + 263)), (3, .ref (B + 277)), (4, .int (nI i))]
section
variable {p : Program} {l : Launch} {e : Env} {R : Room} {s : State} {m : MethodId} {below : List Frame} {meth : Method} {c : Code} {D : va_G} {CA : Nat → ClassId} {B : Nat} {sa sv : Nat → Nat} {H : Heap} {locs : List Loc} {ls : Array Slot} {cells slots : Nat} {Qw : State → Prop} {pc : Nat} {r : Rr} {g : Gi} {j : Gl} {st : List Value} {n d b L i : Nat} {xs : Nat → Int32}
theorem L_arg {k : Nat} (C : LC p s m c b L xs D CA B sa sv) (hS : va_S (AB B) s.heap H locs) (hl : lv_has ls 7 (lvL b B i)) (hi : i + 6 ≤ L) (hok : okArg pc k = true)
    (kk : W p l e R s m #[Value.ref b] below meth c H locs cells slots Qw (F0 m (pc + 6) ls (.int (xs (i + k)) :: st))) : W p l e R s m #[Value.ref b] below meth c H locs cells slots Qw (F0 m pc ls st) := by
  obtain ⟨F, hX, hbl, hB, hL⟩ := C
  have hx := F.1
  have hb := F.2.1
  simp only [okArg, Bool.and_eq_true, decide_eq_true_eq] at hok
  obtain ⟨a1, a2, a3, a4, a5, a6, a7⟩ := hok
  have hk : k < 6 := Nat.le_of_ble_eq_true a7
  refine lv_aload_n hx hb a1 rfl (lv_at hl 0 rfl) ?_
  refine lv_iload hx hb a2 (lv_at hl 4 rfl) ?_
  refine lv_iconst (v := nI k) hx hb a3 a6 ?_
  refine lv_iadd hx hb a4 ?_
  rw [nI_add]
  refine va_sld hx hb hX hbl (show ¬ AB B b from by show ¬ B ≤ b; omega) hS (vp_in_nI (by omega) (by omega)) a5 ?_
  rw [nI_clamp (by omega)]
  exact kk
theorem L_args (C : LC p s m c b L xs D CA B sa sv) (hS : va_S (AB B) s.heap H locs) (hl : lv_has ls 7 (lvL b B i)) (hi : i + 6 ≤ L) : ∀ (al : List (Nat × Bool)) (pc pe : Nat) (st : List Value), okArgs pc al pe = true →
    W p l e R s m #[Value.ref b] below meth c H locs cells slots Qw (F0 m pe ls ((argV xs i al).reverse ++ st)) → W p l e R s m #[Value.ref b] below meth c H locs cells slots Qw (F0 m pc ls st) := by
  have hx := C.1.1
  have hb := C.1.2.1
  intro al
  induction al with
  | nil =>
    intro pc pe st hok kk
    have : pc = pe := Nat.eq_of_beq_eq_true hok
    subst this
    exact kk
  | cons q t ih =>
    intro pc pe st hok kk
    obtain ⟨k, f⟩ := q
    simp only [okArgs, Bool.and_eq_true] at hok
    obtain ⟨h1, h2⟩ := hok
    have kk' : W p l e R s m #[Value.ref b] below meth c H locs cells slots Qw (F0 m pe ls ((argV xs i t).reverse ++ (aV xs i (k, f) :: st))) := by
      have e1 : (argV xs i ((k, f) :: t)).reverse ++ st = (argV xs i t).reverse ++ (aV xs i (k, f) :: st) := by
        show (aV xs i (k, f) :: argV xs i t).reverse ++ st = _
        rw [List.reverse_cons, List.append_assoc]; rfl
      rw [← e1]; exact kk
    have go := ih _ _ _ h2 kk'
    cases f with
    | false =>
      simp only [okA, cond_false] at h1
      exact L_arg C hS hl hi h1 go
    | true =>
      simp only [okA, cond_true, Bool.and_eq_true, decide_eq_true_eq] at h1
      obtain ⟨b1, b2, b3, b4, b5⟩ := h1
      refine L_arg C hS hl hi b1 ?_
      refine lv_if_eq (tgt := pc + 13) hx hb b2 (by omega) (fun z => ?_) (fun z => ?_)
      · refine lv_iconst (v := 0) hx hb b5 (by decide) ?_
        have : aV xs i (k, true) = .int 0 := by show Value.int (bo _) = _; unfold bo; rw [if_pos z]
        rw [this] at go; exact go
      · refine lv_iconst (v := 1) hx hb b3 (by decide) ?_
        refine lv_goto (tgt := pc + 14) hx hb b4 (by omega) ?_
        have : aV xs i (k, true) = .int 1 := by show Value.int (bo _) = _; unfold bo; rw [if_neg z]
        rw [this] at go; exact go
def okCase (pc : Nat) (al : List (Nat × Bool)) (p1 ix1 mk1 p2 ix2 mk2 : Nat) : Bool := decide (decode (mB 255) pc = .ok (.aload_n 1, 1)) && (okArgs (pc + 1) al p1 && (decide (decode (mB 255) p1 = .ok (.invokevirtual ix1, 3)) && (decide (decode (mB 255) (p1 + 3) = .ok (.aload_n 2, 1)) && (okArgs (p1 + 4) al p2 && (decide (decode (mB 255) p2 = .ok (.invokevirtual ix2, 3)) &&
  (decide ((lk2 (mlT 11) ix1).map (fun q => (q.1, q.2.1, q.2.2.1)) = some (0, mk1, al.length)) && (decide ((lk2 (mlT 11) ix2).map (fun q => (q.1, q.2.1, q.2.2.1)) = some (0, mk2, al.length)) && (Nat.beq (mO mk1) 9 && Nat.beq (mO mk2) 10))))))))
theorem lk_spec {ix mk n : Nat} (h : (lk2 (mlT 11) ix).map (fun q => (q.1, q.2.1, q.2.2.1)) = some (0, mk, n)) : ∃ pl, lk2 (mlT 11) ix = some (0, mk, n, pl) := by
  cases hq : lk2 (mlT 11) ix with
  | none => rw [hq] at h; cases h
  | some q =>
    obtain ⟨q1, q2, q3, q4⟩ := q
    rw [hq] at h
    simp only [Option.map_some, Option.some.injEq, Prod.mk.injEq] at h
    obtain ⟨rfl, rfl, rfl⟩ := h
    exact ⟨q4, rfl⟩
/-- both calls of a case, whatever they answer -/
theorem L_calls {al : List (Nat × Bool)} {p1 ix1 mk1 p2 ix2 mk2 : Nat} {K : Option Value → QT} (C : LC p s m c b L xs D CA B sa sv) (hS : va_S (AB B) s.heap H locs) (hW : Wd D CA B r g j H) (hl : lv_has ls 7 (lvL b B i)) (hi : i + 6 ≤ L) (hR : d + 1 ≤ R.frames ∧ 64 * (d + 1) ≤ R.locals) (hc : cells ≤ R.cells ∧ slots ≤ R.slots)
    (hok : okCase pc al p1 ix1 mk1 p2 ix2 mk2 = true) (hop : Cm d mk1 (.ref 0 :: argV xs i al) r g j (fun v r1 g1 j1 => (∀ w, v = some w → w.category ≤ 2) ∧ Cm d mk2 (.ref 263 :: argV xs i al) r1 g1 j1 (K v)))
    (kk : ∀ (v v' : Option Value) (r' : Rr) (g' : Gi) (j' : Gl) (H1 : Heap) (locs1 : List Loc), K v v' r' g' j' → va_S (AB B) s.heap H1 locs1 → Wd D CA B r' g' j' H1 → W p l e R s m #[Value.ref b] below meth c H1 locs1 cells slots Qw (F0 m (p2 + 3) ls ((v'.map (tr B sa)).toList ++ (v.map (tr B sa)).toList))) :
    W p l e R s m #[Value.ref b] below meth c H locs cells slots Qw (F0 m pc ls []) := by
  have F := C.1
  have hx := F.1
  have hb := F.2.1
  simp only [okCase, Bool.and_eq_true, decide_eq_true_eq] at hok
  obtain ⟨a1, a2, a3, a4, a5, a6, a7, a8, a9, a10⟩ := hok
  obtain ⟨pl1, hq1⟩ := lk_spec a7
  obtain ⟨pl2, hq2⟩ := lk_spec a8
  have o1 : mO mk1 = 9 := Nat.eq_of_beq_eq_true a9
  have o2 : mO mk2 = 10 := Nat.eq_of_beq_eq_true a10
  have hlen : (argV xs i al).length = al.length := by unfold argV; rw [List.length_map]
  refine lv_aload_n hx hb a1 rfl (lv_at hl 1 rfl) ?_
  refine L_args C hS hl hi al (pc + 1) p1 _ a2 ?_
  have hc1 := W_callV (p := p) (l := l) (e := e) (R := R) (below := below) (meth := meth) (locs := locs) (ls := ls) (Qw := Qw) (st := []) (as := argV xs i al) (a := 0) F hS hW hR hc a3 hq1 hlen (by rw [o1]; rfl) (Nat.zero_le _) hl.1 hop
  rw [argV_tr] at hc1
  refine hc1 ?_
  intro v r1 g1 j1 H1 locs1 hv hS1 hW1
  obtain ⟨hcat, hv⟩ := hv
  refine lv_aload_n hx hb a4 rfl (lv_at hl 2 rfl) ?_
  refine L_args C hS1 hl hi al (p1 + 4) p2 _ a5 ?_
  have hc2 := W_callV (p := p) (l := l) (e := e) (R := R) (below := below) (meth := meth) (locs := locs1) (ls := ls) (Qw := Qw) (st := (v.map (tr B sa)).toList) (as := argV xs i al) (a := 263) F hS1 hW1 hR hc a6 hq2 hlen (by rw [o2]; rfl) (by
    cases v with
    | none => exact Nat.zero_le _
    | some w =>
      show (tr B sa w).category + 0 ≤ 8
      rw [tr_cat]
      have := hcat w rfl
      omega) hl.1 hv
  rw [argV_tr] at hc2
  rw [List.append_nil]
  exact hc2 (fun v' r' g' j' H2 locs2 hk hS2 hW2 => kk v v' r' g' j' H2 locs2 hk hS2 hW2)
theorem L_casei {al : List (Nat × Bool)} {p1 ix1 mk1 p2 ix2 mk2 : Nat} (C : LC p s m c b L xs D CA B sa sv) (hS : va_S (AB B) s.heap H locs) (hW : Wd D CA B r g j H) (hl : lv_has ls 7 (lvL b B i)) (hi : i + 6 ≤ L) (hR : d + 1 ≤ R.frames ∧ 64 * (d + 1) ≤ R.locals) (hc : cells ≤ R.cells ∧ slots ≤ R.slots)
    (hok : okCase pc al p1 ix1 mk1 p2 ix2 mk2 = true) {off : Int} (hcmp : decode (mB 255) (p2 + 3) = .ok (.if_icmp .eq off, 3)) (hoff : ((p2 + 3 : Nat) : Int) + off = ((1646 : Nat) : Int)) (hop : OPi d mk1 mk2 (argV xs i al) n r g j)
    (kk : ∀ (r' : Rr) (g' : Gi) (j' : Gl) (H1 : Heap) (locs1 : List Loc), J (n + 1) r' g' → va_S (AB B) s.heap H1 locs1 → Wd D CA B r' g' j' H1 → W p l e R s m #[Value.ref b] below meth c H1 locs1 cells slots Qw (F0 m 1646 ls [])) :
    W p l e R s m #[Value.ref b] below meth c H locs cells slots Qw (F0 m pc ls []) := by
  refine L_calls (K := fun v v' r2 g2 j2 => ∃ y, v = some (.int y) ∧ v' = some (.int y) ∧ J (n + 1) r2 g2) C hS hW hl hi hR hc hok ?_ ?_
  · refine Cm_mono hop (fun v r1 g1 j1 hv => ?_)
    unfold rkI at hv
    split at hv
    · refine ⟨fun w hw => by cases hw; exact Nat.le_of_ble_eq_true rfl, Cm_mono hv (fun v' r2 g2 j2 hv' => ?_)⟩
      unfold rkI at hv'
      split at hv'
      · obtain ⟨rfl, hJ⟩ := hv'
        exact ⟨_, rfl, rfl, hJ⟩
      · exact hv'.elim
    · exact hv.elim
  · intro v v' r' g' j' H1 locs1 hk hS1 hW1
    obtain ⟨y, rfl, rfl, hJ⟩ := hk
    refine lv_icmp_eq (tgt := 1646) C.1.1 C.1.2.1 hcmp hoff (fun _ => kk r' g' j' H1 locs1 hJ hS1 hW1) (fun z => absurd rfl z)
theorem L_casel {al : List (Nat × Bool)} {p1 ix1 mk1 p2 ix2 mk2 : Nat} (C : LC p s m c b L xs D CA B sa sv) (hS : va_S (AB B) s.heap H locs) (hW : Wd D CA B r g j H) (hl : lv_has ls 7 (lvL b B i)) (hi : i + 6 ≤ L) (hR : d + 1 ≤ R.frames ∧ 64 * (d + 1) ≤ R.locals) (hc : cells ≤ R.cells ∧ slots ≤ R.slots)
    (hok : okCase pc al p1 ix1 mk1 p2 ix2 mk2 = true) {off : Int} (hcmp : decode (mB 255) (p2 + 3) = .ok (.lcmp, 1)) (hif : decode (mB 255) (p2 + 4) = .ok (.ifCond .eq off, 3)) (hoff : ((p2 + 4 : Nat) : Int) + off = ((1646 : Nat) : Int)) (hop : OPl d mk1 mk2 (argV xs i al) n r g j)
    (kk : ∀ (r' : Rr) (g' : Gi) (j' : Gl) (H1 : Heap) (locs1 : List Loc), J (n + 1) r' g' → va_S (AB B) s.heap H1 locs1 → Wd D CA B r' g' j' H1 → W p l e R s m #[Value.ref b] below meth c H1 locs1 cells slots Qw (F0 m 1646 ls [])) :
    W p l e R s m #[Value.ref b] below meth c H locs cells slots Qw (F0 m pc ls []) := by
  refine L_calls (K := fun v v' r2 g2 j2 => ∃ y, v = some (.long y) ∧ v' = some (.long y) ∧ J (n + 1) r2 g2) C hS hW hl hi hR hc hok ?_ ?_
  · refine Cm_mono hop (fun v r1 g1 j1 hv => ?_)
    unfold rkJ at hv
    split at hv
    · refine ⟨fun w hw => by cases hw; exact Nat.le_of_ble_eq_true rfl, Cm_mono hv (fun v' r2 g2 j2 hv' => ?_)⟩
      unfold rkJ at hv'
      split at hv'
      · obtain ⟨rfl, hJ⟩ := hv'
        exact ⟨_, rfl, rfl, hJ⟩
      · exact hv'.elim
    · exact hv.elim
  · intro v v' r' g' j' H1 locs1 hk hS1 hW1
    obtain ⟨y, rfl, rfl, hJ⟩ := hk
    refine W.lcmp C.1.1 C.1.2.1 hcmp ?_
    refine lv_if_eq (tgt := 1646) C.1.1 C.1.2.1 hif hoff (fun _ => kk r' g' j' H1 locs1 hJ hS1 hW1) (fun z => absurd ((lg_cmp_eq y y).mpr rfl) z)
end
