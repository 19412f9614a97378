/-! THE CONSTRUCTORS: the world while it is being made, and the rows over it -/
def Wc (D : va_G) (CA : Nat → ClassId) (B : Nat) (r : Rr) (g : Gi) (hi : Nat) (H : Heap) : Prop :=
  H.size = B + hi ∧ (∀ a ci, a < hi → SH a = some (.inl ci) → t_OB (B + a) (D.1 ci) (nf ci) (D.2 ci) H (fun k => fv B (tyn ci k) (r a k) (g a k) 0)) ∧
  (∀ a t n, a < hi → SH a = some (.inr (t, n)) → H[B + a]? = some (arrV (CA t) n (fun i => fv B (aT t) (r a i) (g a i) 0))) ∧ ∀ a k, hi ≤ a → r a k = none ∧ g a k = 0
/-- the links between nest mates that a constructor asks for -/
def nsL : List (String × Nat × MethodName) := [(RX4, 57, mY 48), (RX4, 58, mY 0), (RX9, 48, mY 56), (RX9, 68, mY 14), (RX9, 75, mY 8), (RX9, 82, mY 2), (RX9, 89, mY 52)]
/-- what a constructor needs beside the world: rows of references can be made, nest mates are linked -/
def KA (s : State) : Prop := (va_AO "DayPort$Ship" s ∧ va_AO "DayPort$Crate" s ∧ va_AO "DayPort$Yard" s ∧ (Cond.arrayOver (.array .int)).before #[] s = true) ∧ ∀ q ∈ nsL, va_Nw (.methodLinkNest q.1 q.2.1 q.2.2 "DayPort") s
theorem KA.warm {s U : State} (h : KA s) (hW : s.WarmedH U.vm) : KA U :=
  ⟨⟨va_AO.moved hW.alike h.1.1, va_AO.moved hW.alike h.1.2.1, va_AO.moved hW.alike h.1.2.2.1, over_moved hW.alike h.1.2.2.2⟩, fun q hq => va_Nw.warmM hW (h.2 q hq)⟩
theorem KA.same {s U : State} (h : KA s) (hv : s.vm = U.vm) : KA U := by
  have ha : s.vm.Alike U.vm := by rw [← hv]; exact Vm.Alike.refl _
  exact ⟨⟨va_AO.moved ha h.1.1, va_AO.moved ha h.1.2.1, va_AO.moved ha h.1.2.2.1, over_moved ha h.1.2.2.2⟩, fun q hq => va_Nw.same rfl hv (h.2 q hq)⟩
theorem kf {p : Program} {s : State} {m : MethodId} {args : Array Value} {c : Code} {mi : Nat} {D : va_G} {CA : Nat → ClassId} {B : Nat} {sa sv : Nat → Nat} (F : Fy p s m args c mi D CA B sa sv) (t : Nat) (ht : t < 8) : s.vm.findClass ("[" ++ (aT t).toString) = some (CA t) := by
  have h := (F.2.2.2.2.2.2.1 t ht).2
  unfold va_RA at h
  split at h
  · next C e => obtain ⟨_, _, _, _, _, h4⟩ := h; rw [e]; exact h4
  · exact h
def okT (t : FieldType) : Bool := match t with
  | .int => true
  | .byte => true
  | .boolean => true
  | .long => true
  | .object _ => true
  | .array _ => true
  | _ => false
theorem fv_def {B : Nat} {t : FieldType} (h : okT t = true) : fv B t none 0 0 = defaultValue t := by
  cases t <;> first | rfl | cases h
set_option maxRecDepth 100000 in
theorem okT_c0 : (List.range 11).all (fun ci => (List.range (nf ci)).all (fun k => okT (tyn ci k))) = true := by decide +kernel
theorem okT_c {ci k : Nat} (h : ci < 11) (hk : k < nf ci) : okT (tyn ci k) = true := List.all_eq_true.mp (List.all_eq_true.mp okT_c0 ci (List.mem_range.mpr h)) k (List.mem_range.mpr hk)
theorem okT_a {t : Nat} (h : t < 8) : okT (aT t) = true := List.all_eq_true.mp (show (List.range 8).all (fun t => okT (aT t)) = true by decide +kernel) t (List.mem_range.mpr h)
theorem arrV_ext {cI : ClassId} {N : Nat} {f f' : Nat → Value} (h : ∀ j, j < N → f j = f' j) : arrV cI N f = arrV cI N f' := by
  unfold arrV
  have : (fun j : Fin N => f j.val) = fun j : Fin N => f' j.val := funext (fun j => h j.val j.isLt)
  rw [this]
theorem Wc.add {D : va_G} {CA : Nat → ClassId} {B : Nat} {r : Rr} {g : Gi} {hi : Nat} {H H1 : Heap} (h : Wc D CA B r g hi H) (hz : H1.size = B + hi + 1) (ho : ∀ q : Nat, q < H.size → H1[q]? = H[q]?)
    (h1 : ∀ ci, SH hi = some (.inl ci) → t_OB (B + hi) (D.1 ci) (nf ci) (D.2 ci) H1 (fun k => fv B (tyn ci k) none 0 0)) (h2 : ∀ t n, SH hi = some (.inr (t, n)) → H1[B + hi]? = some (arrV (CA t) n (fun i => fv B (aT t) none 0 0))) : Wc D CA B r g (hi + 1) H1 := by
  obtain ⟨w1, w2, w3, w4⟩ := h
  refine ⟨by omega, fun a ci ha hs => ?_, fun a t n ha hs => ?_, fun a k ha => w4 a k (by omega)⟩
  · by_cases e : a = hi
    · subst e
      refine t_OB.to (h1 ci hs) (fun k _ => ?_)
      rw [(w4 a k (Nat.le_refl _)).1, (w4 a k (Nat.le_refl _)).2]
    · exact (w2 a ci (by omega) hs).kept (ho _ (by omega))
  · by_cases e : a = hi
    · subst e
      rw [h2 t n hs]
      congr 1
      refine arrV_ext (fun k _ => ?_)
      rw [(w4 a k (Nat.le_refl _)).1, (w4 a k (Nat.le_refl _)).2]
    · rw [ho _ (by omega)]; exact w3 a t n (by omega) hs
theorem uI_id {g : Gi} {a k : Nat} {v : Int32} (h : g a k = v) : uI g a k v = g := by
  funext b z
  by_cases e : b = a
  · subst e
    by_cases e2 : z = k
    · subst e2; rw [uI_s, h]
    · rw [uI_n e2]
  · rw [uI_o e]
theorem uR_id {r : Rr} {a k : Nat} {v : Option Nat} (h : r a k = v) : uR r a k v = r := by
  funext b z
  by_cases e : b = a
  · subst e
    by_cases e2 : z = k
    · subst e2; rw [uR_s, h]
    · rw [uR_n e2]
  · rw [uR_o e]
/-- one field of one object is written -/
theorem Wc.setO {D : va_G} {CA : Nat → ClassId} {B : Nat} {r : Rr} {g : Gi} {hi : Nat} {H H1 : Heap} {a ci k : Nat} {x : Option Nat} {y : Int32} (h : Wc D CA B r g hi H) (ha : a < hi) (hs : SH a = some (.inl ci)) (hz : H1.size = H.size) (ho : ∀ q : Nat, q ≠ B + a → H1[q]? = H[q]?)
    (hn : t_OB (B + a) (D.1 ci) (nf ci) (D.2 ci) H1 (updV (fun z => fv B (tyn ci z) (r a z) (g a z) 0) k (fv B (tyn ci k) x y 0))) : Wc D CA B (uR r a k x) (uI g a k y) hi H1 := by
  obtain ⟨w1, w2, w3, w4⟩ := h
  refine ⟨by omega, fun b c hb hs2 => ?_, fun b t n hb hs2 => ?_, fun b z hb => ?_⟩
  · by_cases e : b = a
    · subst e
      have : c = ci := by rw [hs] at hs2; injection hs2 with h1; injection h1 with h2; exact h2.symm
      subst this
      refine t_OB.to hn (fun z _ => ?_)
      unfold updV
      by_cases e : z = k
      · subst e; rw [if_pos rfl, uR_s, uI_s]
      · rw [if_neg e, uR_n e, uI_n e]
    · rw [uR_o e, uI_o e]
      exact (w2 b c hb hs2).kept (ho _ (by omega))
  · have e : b ≠ a := fun e => by subst e; rw [hs] at hs2; injection hs2 with h1; cases h1
    rw [uR_o e, uI_o e, ho _ (by omega)]
    exact w3 b t n hb hs2
  · rw [uR_o (by omega), uI_o (by omega)]; exact w4 b z hb
/-- one place of one row of references is written -/
theorem Wc.setA {D : va_G} {CA : Nat → ClassId} {B : Nat} {r : Rr} {g : Gi} {hi : Nat} {H H1 : Heap} {a t n k b : Nat} (h : Wc D CA B r g hi H) (ha : a < hi) (hs : SH a = some (.inr (t, n))) (ht : fk (aT t) = 2) (hz : H1.size = H.size) (ho : ∀ q : Nat, q ≠ B + a → H1[q]? = H[q]?)
    (hn : H1[B + a]? = some (arrV (CA t) n (updV (fun i => fv B (aT t) (r a i) (g a i) 0) k (.ref (B + b))))) : Wc D CA B (uR r a k (some b)) g hi H1 := by
  obtain ⟨w1, w2, w3, w4⟩ := h
  refine ⟨by omega, fun c ci hc hs2 => ?_, fun c t2 n2 hc hs2 => ?_, fun c z hc => ?_⟩
  · have e : c ≠ a := fun e => by subst e; rw [hs] at hs2; injection hs2 with h1; cases h1
    rw [uR_o e]
    exact (w2 c ci hc hs2).kept (ho _ (by omega))
  · by_cases e : c = a
    · subst e
      rw [hs] at hs2
      injection hs2 with h1
      injection h1 with h2
      injection h2 with h3 h4
      subst h3; subst h4
      rw [hn]
      congr 1
      refine arrV_ext (fun z _ => ?_)
      unfold updV
      by_cases e : z = k
      · subst e; rw [if_pos rfl, uR_s, fv_2 ht]; rfl
      · rw [if_neg e, uR_n e]
    · rw [uR_o e, ho _ (by omega)]; exact w3 c t2 n2 hc hs2
  · rw [uR_o (by omega)]; exact w4 c z hc
section
variable {p : Program} {l : Launch} {e : Env} {R : Room} {s : State} {m : MethodId} {args : Array Value} {below : List Frame} {meth : Method} {c : Code} {D : va_G} {CA : Nat → ClassId} {B : Nat} {sa sv : Nat → Nat} {H : Heap} {locs : List Loc} {ls : Array Slot} {cells slots : Nat} {Qw : State → Prop} {mi pc hi : Nat} {r : Rr} {g : Gi} {st : List Value}
theorem va_S.grow {H1 : Heap} (hS : va_S (AB B) s.heap H locs) (hz : H.size ≤ H1.size) (ho : ∀ q : Nat, q < H.size → H1[q]? = H[q]?) : va_S (AB B) s.heap H1 locs := ⟨Nat.le_trans hS.1 hz, fun q h1 h2 => (ho q (Nat.lt_of_lt_of_le h1 hS.1)).trans (hS.2.1 q h1 h2), hS.2.2⟩
theorem C_new {ix ci i1 i2 i3 : Nat} (F : Fy p s m args c mi D CA B sa sv) (hS : va_S (AB B) s.heap H locs) (hW : Wc D CA B r g hi H) (hs : SH hi = some (.inl ci)) (hci : ci < 11) (hw : (wordOf i1 (.classLink (Rn (mO mi)) ix (Rn ci)) && (wordOf i2 (.instantiable (Rn ci) (nf ci)) && wordOf i3 (.initialized (Rn ci)))) = true)
    (hd : decode (mB mi) pc = .ok (.new ix, 3)) (hc : cells + 1 ≤ R.cells) (hl : slots + nf ci ≤ R.slots) (kk : ∀ H1 : Heap, va_S (AB B) s.heap H1 locs → Wc D CA B r g (hi + 1) H1 → W p l e R s m args below meth c H1 locs (cells + 1) (slots + nf ci) Qw (F0 m (pc + 3) ls (.ref (B + hi) :: st))) :
    W p l e R s m args below meth c H locs cells slots Qw (F0 m pc ls st) := by
  simp only [Bool.and_eq_true] at hw
  obtain ⟨w1, w2, w3⟩ := hw
  have hts := F.2.2.2.2.1
  have hKn := F.2.2.2.2.2.1 ci hci
  refine W.newcK F.1 F.2.1 F.2.2.2.1 (hts _ (in_TS w1)) (hts _ (in_TS w2)) (hts _ (in_TS w3)) rfl hd hc hl hKn.2.1 hW.1 (fun H1 kC hkC e1 z1 o1 => ?_)
  refine kk H1 (hS.grow (by rw [z1, hW.1]; omega) (fun q hq => o1 q (by rw [← hW.1]; exact hq))) (hW.add z1 (fun q hq => o1 q (by rw [← hW.1]; exact hq)) (fun ci' h => ?_) (fun t n h => ?_))
  · rw [hs] at h; injection h with h1; injection h1 with h2; subst h2
    exact (u_born (tyn ci) hts (ly_in hci) hKn hkC e1 (fun k hk => ty_ok hci hk)).to (fun k hk => (fv_def (okT_c hci hk)).symm)
  · rw [hs] at h; injection h with h1; cases h1
theorem C_newa {t n i1 : Nat} {aty : ArrayType} (F : Fy p s m args c mi D CA B sa sv) (hK : KA s) (hS : va_S (AB B) s.heap H locs) (hW : Wc D CA B r g hi H) (hs : SH hi = some (.inr (t, n))) (hty : newarray.typeOf aty = aT t) (hw : wordOf i1 (.arrayClass (aT t)) = true) (hd : decode (mB mi) pc = .ok (.newarray aty, 2))
    (hn : n * componentBytes (aT t) ≤ 536870912) (hc : cells + 1 ≤ R.cells) (hl : slots + n ≤ R.slots) (kk : ∀ H1 : Heap, va_S (AB B) s.heap H1 locs → Wc D CA B r g (hi + 1) H1 → W p l e R s m args below meth c H1 locs (cells + 1) (slots + n) Qw (F0 m (pc + 2) ls (.ref (B + hi) :: st))) :
    W p l e R s m args below meth c H locs cells slots Qw (F0 m pc ls (.int (nI n) :: st)) := by
  obtain ⟨h1, h2⟩ := sh_ok hs
  have hts := F.2.2.2.2.1
  have hnn : ¬ nI n < 0 := by rw [← nI_0, nI_ltI h2 (by decide)]; omega
  refine va_newaK F.1 F.2.1 (atype := aty) (by rw [hty]; exact hts _ (in_TS hw)) (g := F0 m pc ls (.int (nI n) :: st)) rfl hd rfl hnn (nI_clamp h2) (by rw [hty]; exact hn) hc hl hW.1 (fun H1 cA e1 z1 o1 _ hf => ?_)
  rw [hty] at e1 hf
  have hcA : cA = CA t := Option.some.inj (hf.symm.trans (kf F t h1))
  subst hcA
  refine kk H1 (hS.grow (by rw [z1, hW.1]; omega) (fun q hq => o1 q (by rw [← hW.1]; exact hq))) (hW.add z1 (fun q hq => o1 q (by rw [← hW.1]; exact hq)) (fun ci h => ?_) (fun t' n' h => ?_))
  · rw [hs] at h; injection h with h1; cases h1
  · rw [hs] at h; injection h with h1; injection h1 with h2; injection h2 with h3 h4; subst h3; subst h4
    rw [e1]
    congr 1
    exact arrV_ext (fun _ _ => (fv_def (okT_a h1)).symm)
theorem C_anew {t n ix i1 : Nat} {C : String} (F : Fy p s m args c mi D CA B sa sv) (hK : KA s) (hS : va_S (AB B) s.heap H locs) (hW : Wc D CA B r g hi H) (hs : SH hi = some (.inr (t, n))) (hty : aT t = .object C) (hao : va_AO C s) (hw : wordOf i1 (.classLink (Rn (mO mi)) ix C) = true) (hd : decode (mB mi) pc = .ok (.anewarray ix, 3))
    (hn : n * 4 ≤ 536870912) (hc : cells + 1 ≤ R.cells) (hl : slots + n ≤ R.slots) (kk : ∀ H1 : Heap, va_S (AB B) s.heap H1 locs → Wc D CA B r g (hi + 1) H1 → W p l e R s m args below meth c H1 locs (cells + 1) (slots + n) Qw (F0 m (pc + 3) ls (.ref (B + hi) :: st))) :
    W p l e R s m args below meth c H locs cells slots Qw (F0 m pc ls (.int (nI n) :: st)) := by
  obtain ⟨h1, h2⟩ := sh_ok hs
  have hts := F.2.2.2.2.1
  have hnn : ¬ nI n < 0 := by rw [← nI_0, nI_ltI h2 (by decide)]; omega
  have hcl := nI_clamp h2
  refine W.anew F.1 F.2.1 F.2.2.2.1 (hts _ (in_TS hw)) (va_AO.use hao) (g := F0 m pc ls (.int (nI n) :: st)) rfl hd rfl hnn (by rw [hcl]; exact hn) hc (by rw [hcl]; exact hl) (fun cA kA comp f1 f2 f3 f4 => ?_)
  rw [hcl, arrV_new]
  have hcA : cA = CA t := Option.some.inj (f1.symm.trans (by rw [← hty]; exact kf F t h1))
  subst hcA
  have hz := hW.1
  have o1 : ∀ q : Nat, q < H.size → (H.push (arrV (CA t) n (fun _ => .null)))[q]? = H[q]? := fun q hq => by rw [Array.getElem?_push, if_neg (Nat.ne_of_lt hq)]
  rw [hz]
  refine kk _ (hS.grow (by rw [Array.size_push]; omega) o1) (hW.add (by rw [Array.size_push, hz]) o1 (fun ci h => ?_) (fun t' n' h => ?_))
  · rw [hs] at h; injection h with h1; cases h1
  · rw [hs] at h; injection h with h1; injection h1 with h2; injection h2 with h3 h4; subst h3; subst h4
    rw [← hz, Array.getElem?_push_size]
    congr 1
    exact arrV_ext (fun _ _ => by rw [hty]; rfl)
def gridR (h : Nat) (r : Rr) : Rr := uR (uR (uR (uR (uR r h 0 (some (h + 1))) h 1 (some (h + 2))) h 2 (some (h + 3))) h 3 (some (h + 4))) h 4 (some (h + 5))
theorem gridR_o {h b : Nat} (r : Rr) (hb : b ≠ h) : gridR h r b = r b := by
  unfold gridR
  rw [uR_o hb, uR_o hb, uR_o hb, uR_o hb, uR_o hb]
theorem gridR_s (h : Nat) (r : Rr) : ∀ z, z < 5 → gridR h r h z = some (h + 1 + z) := by
  intro z hz
  unfold gridR
  match z, hz with
  | 0, _ => rw [uR_n (by decide), uR_n (by decide), uR_n (by decide), uR_n (by decide), uR_s]
  | 1, _ => rw [uR_n (by decide), uR_n (by decide), uR_n (by decide), uR_s]
  | 2, _ => rw [uR_n (by decide), uR_n (by decide), uR_s]
  | 3, _ => rw [uR_n (by decide), uR_s]
  | 4, _ => rw [uR_s]
theorem C_grid {ix i1 i2 : Nat} (F : Fy p s m args c mi D CA B sa sv) (hK : KA s) (hS : va_S (AB B) s.heap H locs) (hW : Wc D CA B r g hi H) (hs : SH hi = some (.inr (7, 5))) (hs2 : ∀ j, j < 5 → SH (hi + 1 + j) = some (.inr (0, 5))) (hw : (wordOf i1 (.classLink (Rn (mO mi)) ix "[[I") && wordOf i2 (.arrayClass .int)) = true) (hd : decode (mB mi) pc = .ok (.multianewarray ix 2, 4))
    (hc : cells + 6 ≤ R.cells) (hl : slots + 30 ≤ R.slots) (kk : ∀ (H1 : Heap) (locs1 : List Loc), va_S (AB B) s.heap H1 locs1 → Wc D CA B (gridR hi r) g (hi + 6) H1 → W p l e R s m args below meth c H1 locs1 (cells + 6) (slots + 30) Qw (F0 m (pc + 4) ls (.ref (B + hi) :: st))) :
    W p l e R s m args below meth c H locs cells slots Qw (F0 m pc ls (.int 5 :: .int 5 :: st)) := by
  simp only [Bool.and_eq_true] at hw
  obtain ⟨w1, w2⟩ := hw
  have hts := F.2.2.2.2.1
  obtain ⟨v1, v2, v3, v4⟩ := id hW
  refine W_grid F.1 F.2.1 F.2.2.2.1 (hts _ (in_TS w1)) hK.1.2.2.2 (hts _ (in_TS w2)) hd hc hl (fun H1 L cA cI wz f1 f2 z1 o1 q1 qw q2 hL => ?_)
  have hcA : cA = CA 7 := Option.some.inj (f1.symm.trans (kf F 7 (by decide)))
  have hcI : cI = CA 0 := Option.some.inj (f2.symm.trans (kf F 0 (by decide)))
  subst hcA; subst hcI
  have hz := hW.1
  rw [hz] at q1 q2 qw z1 ⊢
  refine kk H1 (locs ++ L) ⟨Nat.le_trans hS.1 (by omega), fun q h1 h2 => (o1 q (by have := hS.1; omega)).trans (hS.2.1 q h1 h2), fun q hq => ?_⟩ ⟨by omega, fun a ci ha hsa => ?_, fun a t n ha hsa => ?_, fun a k ha => ?_⟩
  · rcases List.mem_append.mp hq with h | h
    · exact hS.2.2 q h
    · rw [hL q h, hz]; exact Nat.le_add_right B hi
  · rcases Nat.lt_or_ge a hi with h | h
    · rw [gridR_o r (by omega)]
      exact (v2 a ci h hsa).kept (o1 _ (by omega))
    · by_cases e : a = hi
      · subst e; rw [hs] at hsa; injection hsa with h1; cases h1
      · obtain ⟨j, hj, rfl⟩ : ∃ j, j < 5 ∧ a = hi + 1 + j := ⟨a - hi - 1, by omega, by omega⟩
        rw [hs2 j hj] at hsa; injection hsa with h1; cases h1
  · rcases Nat.lt_or_ge a hi with h | h
    · rw [gridR_o r (by omega), o1 _ (by omega)]
      exact v3 a t n h hsa
    · by_cases e : a = hi
      · subst e
        rw [hs] at hsa; injection hsa with h1; injection h1 with h2; injection h2 with h3 h4; subst h3; subst h4
        rw [q1]
        congr 1
        refine arrV_ext (fun j hj => ?_)
        show wz j = va_rf ((gridR a r a j).map (fun a => B + a))
        rw [qw j hj, gridR_s a r j hj]
        show Value.ref (B + a + 1 + j) = Value.ref (B + (a + 1 + j))
        rw [show B + a + 1 + j = B + (a + 1 + j) by omega]
      · obtain ⟨j, hj, rfl⟩ : ∃ j, j < 5 ∧ a = hi + 1 + j := ⟨a - hi - 1, by omega, by omega⟩
        rw [hs2 j hj] at hsa; injection hsa with h1; injection h1 with h2; injection h2 with h3 h4; subst h3; subst h4
        rw [show B + (hi + 1 + j) = B + hi + 1 + j by omega, q2 j hj]
        congr 1
        refine arrV_ext (fun k _ => ?_)
        show Value.int 0 = Value.int (g _ k)
        rw [(v4 _ k (by omega)).2]
  · rw [gridR_o r (by omega)]; exact v4 a k (by omega)
theorem C_put {ix ci k i a : Nat} {x : Option Nat} {y : Int32} {v : Value} (F : Fy p s m args c mi D CA B sa sv) (hin : meth.name = "<init>") (hS : va_S (AB B) s.heap H locs) (hW : Wc D CA B r g hi H) (ha : a < hi) (hs : SH a = some (.inl ci)) (hd : decode (mB mi) pc = .ok (.putfield ix, 3)) (hq : lk2 (flT (mO mi)) ix = some (ci, k, i)) (hdecl : (Tn ci k).1 = Rn (mO mi))
    (hv : fv B (tyn ci k) x y 0 = v) (hnar : narrow (tyn ci k) v = v ∧ fits (tyn ci k) v = true)
    (kk : ∀ (H1 : Heap) (locs1 : List Loc), va_S (AB B) s.heap H1 locs1 → Wc D CA B (uR r a k x) (uI g a k y) hi H1 → W p l e R s m args below meth c H1 locs1 cells slots Qw (F0 m (pc + 3) ls st)) : W p l e R s m args below meth c H locs cells slots Qw (F0 m pc ls (v :: .ref (B + a) :: st)) := by
  obtain ⟨f1, f2, f3⟩ := fl_ok hq
  obtain ⟨cell, q1, q2, q3, q4⟩ := hW.2.1 a ci ha hs
  obtain ⟨hSl, hfc, kC, hkC, hkind⟩ := F.2.2.2.2.2.1 ci f3
  obtain ⟨cf, kf, fi, f, hi', hsl⟩ := hSl k f2
  have hts := F.2.2.2.2.1
  have hap : ∀ x y, x < nf ci → y < nf ci → x ≠ y → (D.2 ci) x ≠ (D.2 ci) y := by
    intro x y hx hy hne
    obtain ⟨_, _, _, fa, hia, ea⟩ := hSl x hx
    obtain ⟨_, _, _, fb, hib, eb⟩ := hSl y hy
    rw [← ea, ← eb]
    refine u_apart (u_lays hts (ly_in f3) hx) (u_lays hts (ly_in f3) hy) hia hib ?_
    rw [(State.fieldFound?_type hia (ty_ok f3 hx)).1, (State.fieldFound?_type hib (ty_ok f3 hy)).1]
    exact nm_ok f3 x hx y hy hne
  have hlay := hts _ (ly_in f3 _ (u_in_lay f2))
  have hst := (u_facts hfc hkC (u_lays hts (ly_in f3) f2) hi').1
  have fin : ∀ H' : Heap, H'[B + a]? = some (cell.setSlot f.slot v) → H'.size = H.size → (∀ q, q ≠ B + a → H'[q]? = H[q]?) → ∀ z : Nat, W p l e R s m args below meth c H' (locs ++ [⟨B + a, z⟩]) cells slots Qw (F0 m (pc + 3) ls st) := by
    intro H' e1 e2 e3 z
    rw [hsl] at e1
    refine kk H' _ (hS.put e2 e3 (Nat.le_add_right B a)) (hW.setO ha hs e2 e3 ?_)
    rw [hv]
    exact ⟨_, e1, q2, q3, t_set q4 hap f2 v⟩
  cases hfin : (Tn ci k).2.2.2 with
  | true =>
    unfold u_lay at hlay
    rw [if_pos hfin] at hlay
    have hcf : m.cls = cf := by
      obtain ⟨_, _, c', _, _, _, -, -, hf', -, -, -, hown2, -⟩ := Cond.laysFinal_spec hlay
      have e1 : c' = cf := by have := hi'.symm.trans hf'; simp at this; exact this.1.symm
      rw [hdecl] at hown2
      rw [← e1]; exact Option.some.inj (F.2.2.2.1.symm.trans hown2)
    have h6 := u_fits hfc hkC hkind (Or.inr hlay) hi' (ty_ok f3 f2) hnar.1 hnar.2
    exact W.putFinK F.1 F.2.1 F.2.2.2.1 (hts _ (in_TS f1)) hi' hst hcf hin (by rw [q2]; exact h6) q1 q3 (by rw [hsl]; exact k2_hasslot (q4 k f2)) rfl rfl hd fun H' e1 e2 e3 => fin H' e1 e2 e3 _
  | false =>
    unfold u_lay at hlay
    rw [if_neg (by rw [hfin]; decide)] at hlay
    have h6 := u_store hfc hkC hkind hlay hi' (ty_ok f3 f2) hnar.1 hnar.2
    exact W.putK F.1 F.2.1 (f := f) ⟨F.2.2.2.1, hts _ (in_TS f1), ⟨_, _, _, hi'⟩, hst⟩ (by rw [q2]; exact h6) q1 q3 (by rw [hsl]; exact k2_hasslot (q4 k f2)) rfl rfl hd fun H' e1 e2 e3 => fin H' e1 e2 e3 _
def rfT (t : FieldType) : Bool := match t with
  | .object _ => true
  | .array _ => true
  | _ => false
/-- what a putfield of a constructor needs, by the tables -/
def okP (mi pc ix ci k : Nat) : Bool := decide (decode (mB mi) pc = .ok (.putfield ix, 3)) && (decide ((lk2 (flT (mO mi)) ix).map (fun q => (q.1, q.2.1)) = some (ci, k)) && decide ((Tn ci k).1 = Rn (mO mi)))
theorem okP_spec {ix ci k : Nat} (h : okP mi pc ix ci k = true) : decode (mB mi) pc = .ok (.putfield ix, 3) ∧ (∃ i, lk2 (flT (mO mi)) ix = some (ci, k, i)) ∧ (Tn ci k).1 = Rn (mO mi) := by
  simp only [okP, Bool.and_eq_true, decide_eq_true_eq] at h
  refine ⟨h.1, ?_, h.2.2⟩
  cases hq : lk2 (flT (mO mi)) ix with
  | none => rw [hq] at h; cases h.2.1
  | some q =>
    obtain ⟨q1, q2, q3⟩ := q
    rw [hq] at h
    have h2 := h.2.1
    simp only [Option.map_some, Option.some.injEq, Prod.mk.injEq] at h2
    obtain ⟨rfl, rfl⟩ := h2
    exact ⟨q3, rfl⟩
theorem C_putR {ix ci k a b : Nat} (F : Fy p s m args c mi D CA B sa sv) (hin : meth.name = "<init>") (hS : va_S (AB B) s.heap H locs) (hW : Wc D CA B r g hi H) (ha : a < hi) (hs : SH a = some (.inl ci)) (hok : (okP mi pc ix ci k && rfT (tyn ci k)) = true)
    (kk : ∀ (H1 : Heap) (locs1 : List Loc), va_S (AB B) s.heap H1 locs1 → Wc D CA B (uR r a k (some b)) g hi H1 → W p l e R s m args below meth c H1 locs1 cells slots Qw (F0 m (pc + 3) ls st)) : W p l e R s m args below meth c H locs cells slots Qw (F0 m pc ls (.ref (B + b) :: .ref (B + a) :: st)) := by
  simp only [Bool.and_eq_true] at hok
  obtain ⟨h1, ⟨i, h2⟩, h3⟩ := okP_spec hok.1
  have h4 := hok.2
  refine C_put (x := some b) (y := g a k) F hin hS hW ha hs h1 h2 h3 ?_ ?_ (fun H1 locs1 q1 q2 => kk H1 locs1 q1 (by rw [uI_id rfl] at q2; exact q2))
  · cases ht : tyn ci k <;> rw [ht] at h4 <;> first | rfl | cases h4
  · cases ht : tyn ci k <;> rw [ht] at h4 <;> first | exact ⟨rfl, rfl⟩ | cases h4
theorem C_putI {ix ci k a : Nat} {y : Int32} (F : Fy p s m args c mi D CA B sa sv) (hin : meth.name = "<init>") (hS : va_S (AB B) s.heap H locs) (hW : Wc D CA B r g hi H) (ha : a < hi) (hs : SH a = some (.inl ci)) (hok : okP mi pc ix ci k = true) (ht : tyn ci k = .int ∨ (tyn ci k = .boolean ∧ (y = 0 ∨ y = 1)))
    (kk : ∀ (H1 : Heap) (locs1 : List Loc), va_S (AB B) s.heap H1 locs1 → Wc D CA B r (uI g a k y) hi H1 → W p l e R s m args below meth c H1 locs1 cells slots Qw (F0 m (pc + 3) ls st)) : W p l e R s m args below meth c H locs cells slots Qw (F0 m pc ls (.int y :: .ref (B + a) :: st)) := by
  obtain ⟨h1, ⟨i, h2⟩, h3⟩ := okP_spec hok
  refine C_put (x := r a k) (y := y) F hin hS hW ha hs h1 h2 h3 ?_ (narI _ y ht) (fun H1 locs1 q1 q2 => kk H1 locs1 q1 (by rw [uR_id rfl] at q2; exact q2))
  rcases ht with e | ⟨e, -⟩ <;> rw [e] <;> rfl
theorem C_put0 {ix ci k a : Nat} (F : Fy p s m args c mi D CA B sa sv) (hin : meth.name = "<init>") (hS : va_S (AB B) s.heap H locs) (hW : Wc D CA B r g hi H) (ha : a < hi) (hs : SH a = some (.inl ci)) (hg : g a k = 0) (hok : (okP mi pc ix ci k && (decide (tyn ci k = .int) || decide (tyn ci k = .boolean))) = true)
    (kk : ∀ (H1 : Heap) (locs1 : List Loc), va_S (AB B) s.heap H1 locs1 → Wc D CA B r g hi H1 → W p l e R s m args below meth c H1 locs1 cells slots Qw (F0 m (pc + 3) ls st)) : W p l e R s m args below meth c H locs cells slots Qw (F0 m pc ls (.int 0 :: .ref (B + a) :: st)) := by
  simp only [Bool.and_eq_true, Bool.or_eq_true, decide_eq_true_eq] at hok
  exact C_putI F hin hS hW ha hs hok.1 (hok.2.imp id (fun h => ⟨h, Or.inl rfl⟩)) (fun H1 locs1 q1 q2 => kk H1 locs1 q1 (by rw [uI_id hg] at q2; exact q2))
theorem C_putL {ix ci k a : Nat} (F : Fy p s m args c mi D CA B sa sv) (hin : meth.name = "<init>") (hS : va_S (AB B) s.heap H locs) (hW : Wc D CA B r g hi H) (ha : a < hi) (hs : SH a = some (.inl ci)) (hok : (okP mi pc ix ci k && decide (tyn ci k = .long)) = true)
    (kk : ∀ (H1 : Heap) (locs1 : List Loc), va_S (AB B) s.heap H1 locs1 → Wc D CA B r g hi H1 → W p l e R s m args below meth c H1 locs1 cells slots Qw (F0 m (pc + 3) ls st)) : W p l e R s m args below meth c H locs cells slots Qw (F0 m pc ls (.long 0 :: .ref (B + a) :: st)) := by
  simp only [Bool.and_eq_true, decide_eq_true_eq] at hok
  obtain ⟨h1, ⟨i, h2⟩, h3⟩ := okP_spec hok.1
  exact C_put (x := r a k) (y := g a k) F hin hS hW ha hs h1 h2 h3 (by rw [hok.2]; rfl) (by rw [hok.2]; exact ⟨rfl, rfl⟩) (fun H1 locs1 q1 q2 => kk H1 locs1 q1 (by rw [uR_id rfl, uI_id rfl] at q2; exact q2))
theorem C_getR {ix ci k i a b : Nat} (F : Fy p s m args c mi D CA B sa sv) (hW : Wc D CA B r g hi H) (ha : a < hi) (hs : SH a = some (.inl ci)) (hd : decode (mB mi) pc = .ok (.getfield ix, 3)) (hq : lk2 (flT (mO mi)) ix = some (ci, k, i)) (ht : fk (tyn ci k) = 2) (hb : r a k = some b)
    (kk : W p l e R s m args below meth c H locs cells slots Qw (F0 m (pc + 3) ls (.ref (B + b) :: st))) : W p l e R s m args below meth c H locs cells slots Qw (F0 m pc ls (.ref (B + a) :: st)) := by
  obtain ⟨f1, f2, f3⟩ := fl_ok hq
  obtain ⟨cell, q1, q2, q3, q4⟩ := hW.2.1 a ci ha hs
  obtain ⟨hSl, hfc, kC, hkC, hkind⟩ := F.2.2.2.2.2.1 ci f3
  obtain ⟨cf, kf, fi, f, hi, hsl⟩ := hSl k f2
  refine W.getf F.1 F.2.1 F.2.2.2.1 (F.2.2.2.2.1 _ (in_TS f1)) hi (u_facts hfc hkC (u_lays F.2.2.2.2.1 (ly_in f3) f2) hi).1 q1 (by rw [q3]; exact fun h => by cases h) (v := .ref (B + b)) ?_ rfl rfl hd kk
  rw [hsl, q4 k f2]
  show some (fv B (tyn ci k) (r a k) (g a k) 0) = _
  rw [fv_2 ht, hb]; rfl
theorem C_aast {a t n k b ci : Nat} (F : Fy p s m args c mi D CA B sa sv) (hS : va_S (AB B) s.heap H locs) (hW : Wc D CA B r g hi H) (ha : a < hi) (hs : SH a = some (.inr (t, n))) (hty : aT t = .object (Rn ci)) (hci : ci < 11) (hb : b < hi) (hsb : SH b = some (.inl ci)) (hk : k < n) (hd : decode (mB mi) pc = .ok (.aastore, 1))
    (kk : ∀ (H1 : Heap) (locs1 : List Loc), va_S (AB B) s.heap H1 locs1 → Wc D CA B (uR r a k (some b)) g hi H1 → W p l e R s m args below meth c H1 locs1 cells slots Qw (F0 m (pc + 1) ls st)) : W p l e R s m args below meth c H locs cells slots Qw (F0 m pc ls (.ref (B + b) :: .int (nI k) :: .ref (B + a) :: st)) := by
  obtain ⟨h1, h2⟩ := sh_ok hs
  have hcl := nI_clamp (show k < 2 ^ 31 by omega)
  have hnn : ¬ nI k < 0 := by rw [← nI_0, nI_ltI (by omega) (by decide)]; omega
  have hRA := (F.2.2.2.2.2.2.1 t h1).2
  rw [hty] at hRA
  obtain ⟨kA, comp, k1, k2, k3, -⟩ := hRA
  have hcls := (F.2.2.2.2.2.1 ci hci).2
  have hcomp : comp = D.1 ci := Option.some.inj (k3.symm.trans hcls.1)
  rw [hcomp] at k2
  obtain ⟨kC, hkC, -⟩ := hcls.2
  obtain ⟨cellV, g1, g2, g3, -⟩ := hW.2.1 b ci hb hsb
  refine W.aast F.1 F.2.1 (hW.2.2.1 a t n ha hs) (fun q h => by cases h) (fun h => by cases h) k1 k2 rfl hkC ⟨hnn, by rw [arrV_size, hcl]; exact hk⟩ g1 (fun q h => by rw [g3] at h; cases h) (by rw [g2]; exact hkC) (by rw [g2]; exact va_assign hcls) rfl rfl hd fun H1 e1 z oq => ?_
  refine kk H1 _ (hS.put z oq (Nat.le_add_right B a)) (hW.setA ha hs (by rw [hty]; rfl) z oq ?_)
  rw [e1, hcl, arrV_store]
theorem C_obj {ix i1 : Nat} {a : Nat} (F : Fy p s m args c mi D CA B sa sv) (hsz : ls.size = mL mi) (hw : (wordOf i1 (.methodLink (Rn (mO mi)) ix Lib.objectInit) && (wordOf 1028 (.instanceMethod Lib.objectInit) && wordOf 1029 (.code Lib.objectInit ⟨#[0xb1]⟩ 1 none))) = true) (hd : decode (mB mi) pc = .ok (.invokespecial ix, 3)) (hRf : 1 ≤ R.frames) (hRl : 12 ≤ R.locals)
    (kk : W p l e R s m args below meth c H locs cells slots Qw (F0 m (pc + 3) ls [])) : W p l e R s m args below meth c H locs cells slots Qw (F0 m pc ls [.ref (B + a)]) := by
  simp only [Bool.and_eq_true] at hw
  obtain ⟨w1, w2, w3⟩ := hw
  have hts := F.2.2.2.2.1
  exact W.objInit F.1 F.2.1 F.2.2.2.1 (hts _ (in_TS w1)) (hts _ (in_TS w2)) (hts _ (in_TS w3)) (g := F0 m pc ls [.ref (B + a)]) rfl (hsz.trans F.2.2.1.symm) rfl hd hRf (by show 2 * 0 + 0 + 12 ≤ R.locals; omega) kk
def rmC (d mc ms : Nat) : Room := { frames := d, cells := mc, slots := ms, locals := 64 * d }
def PK (D : va_G) (CA : Nat → ClassId) (B : Nat) (sa sv : Nat → Nat) (as : List Value) (r : Rr) (g : Gi) (hi : Nat) : Array Value → State → Prop := fun v U => v = (as.map (tr B sa)).toArray ∧ Kw D CA B sa sv U U.heap ∧ KA U ∧ Wc D CA B r g hi U.heap
def QK (D : va_G) (CA : Nat → ClassId) (B : Nat) (r : Rr) (g : Gi) (hi : Nat) : Array Value → State → Outcome → State → Prop := fun _ st oc t => oc = .returned none ∧ Wc D CA B r g hi t.heap ∧ va_F (AB B) st t
/-- a constructor's contract -/
def CmC (d mi : Nat) (as : List Value) (mc ms hi hi' : Nat) (r r' : Rr) (g g' : Gi) : Prop := ∀ (l : Launch) (D : va_G) (CA : Nat → ClassId) (B : Nat) (sa sv : Nat → Nat), Met l (mY mi) (TS mi) (rmC d mc ms) (PK D CA B sa sv as r g hi) (QK D CA B r' g' hi') mc ms (AB B)
theorem PK.blind {as : List Value} : FrameBlind (PK D CA B sa sv as r g hi) := fun a U gg mk h => ⟨h.1, h.2.1.same rfl, h.2.2.1.same rfl, h.2.2.2⟩
theorem CmC.of {d hi' mc ms : Nat} {as : List Value} {r' : Rr} {g' : Gi} (hm : mi < 254) (hnm : (mY mi).name = "<init>") (hrt : mR mi = none) (hn : (lg_sl as).length ≤ mL mi)
    (h : ∀ (p : Program) (l : Launch) (e : Env) (s : State) (m : MethodId) (args : Array Value) (below : List Frame) (meth : Method) (c : Code) (D : va_G) (CA : Nat → ClassId) (B : Nat) (sa sv : Nat → Nat) (ls : Array Slot), Fy p s m args c mi D CA B sa sv → KA s → meth.name = "<init>" → meth.sig.returnType = none → meth.locks = false → Wc D CA B r g hi s.heap → lv_has ls (mL mi) (trl B sa (lv_args 0 as)) →
      W p l e (rmC d mc ms) s m args below meth c s.heap [] 0 0 (MQ below (QK D CA B r' g' hi') args s mc ms (AB B)) (F0 m 0 ls [])) : CmC d mi as mc ms hi hi' r r' g g' := by
  intro l D CA B sa sv
  have hk := mt_ok hm
  simp only [mtOk, Bool.and_eq_true, decide_eq_true_eq] at hk
  obtain ⟨hk1, hk2, hk3, -⟩ := hk
  refine Met.ofW (cc := mB mi) (maxL := mL mi) (ret := mR mi) hk1 rfl ?_
  intro p e s m args below meth c s₁ Bd hml hv
  obtain ⟨rfl, hK, hKA, hW⟩ := hv
  have hts := atoms_spec (ws := TS mi) Bd.pre
  have hown : s.vm.findClass (Rn (mO mi)) = some m.cls := by rw [hk3]; exact findClass_of_methodNamed Bd.named
  have hl := lv_entry (as.map (tr B sa)) (n := mL mi) (by rw [tr_sl]; exact hn)
  rw [lg_entry_eq]
  rw [tr_args] at hl
  have F : Fx p s m _ meth c mi D CA B sa sv := ⟨Bd.exec, Bd.bytes, hml, Bd.returns, hown, hts, Bd.notSynchronized, hK⟩
  exact h p l e s m _ below meth c D CA B sa sv _ F.y hKA ((name_of_methodNamed Bd.named Bd.method).1.trans hnm) (Bd.returns.trans hrt) Bd.notSynchronized hW hl
theorem va_S.join {L : List Loc} {st t : State} (hS : va_S (AB B) s.heap H locs) (h0 : st.heap = H) (hF : va_F (AB B) st t) (hL : ∀ q ∈ L, AB B q.base) : va_S (AB B) s.heap t.heap (locs ++ L) := by
  have hz := hF.1
  rw [h0] at hz
  refine ⟨Nat.le_trans hS.1 hz, fun q h1 h2 => ?_, fun q hq => ?_⟩
  · rw [hF.2 q (by rw [h0]; exact Nat.lt_of_lt_of_le h1 hS.1) h2, h0]
    exact hS.2.1 q h1 h2
  · rcases List.mem_append.mp hq with h | h
    · exact hS.2.2 q h
    · exact hL q h
/-- a call of a constructor: by a plain link, or by a nest mate's -/
theorem C_init {d ix mk a mc ms hi' i0 i1 i2 n : Nat} {as : List Value} {r' : Rr} {g' : Gi} (F : Fy p s m args c mi D CA B sa sv) (hK : KA s) (hS : va_S (AB B) s.heap H locs) (hW : Wc D CA B r g hi H) (hmk : mk < 254) (hnm : (mY mk).name = "<init>") (hrt : mR mk = none) (hw : (wordOf i1 (.instanceMethod (mY mk)) && wordOf i2 (.initialized (mY mk).cls)) = true)
    (hlk : wordOf i0 (.methodLink (Rn (mO mi)) ix (mY mk)) = true ∨ (Rn (mO mi), ix, mY mk) ∈ nsL) (hp : (parseMethodDescriptor (mY mk).desc).map (fun d => d.parameters.length) = some n) (hn : as.length = n) (hd : decode (mB mi) pc = .ok (.invokespecial ix, 3)) (hsz : ls.size = mL mi) (hst : (st.map fun v => v.category).sum ≤ 8) (hR : d + 1 ≤ R.frames ∧ 64 * (d + 1) ≤ R.locals) (hc : cells + mc ≤ R.cells ∧ slots + ms ≤ R.slots)
    (h : CmC d mk (.ref a :: as) mc ms hi hi' r r' g g') (kk : ∀ (H1 : Heap) (locs1 : List Loc), va_S (AB B) s.heap H1 locs1 → Wc D CA B r' g' hi' H1 → W p l e R s m args below meth c H1 locs1 (cells + mc) (slots + ms) Qw (F0 m (pc + 3) ls st)) :
    W p l e R s m args below meth c H locs cells slots Qw (F0 m pc ls ((as.map (tr B sa)).reverse ++ .ref (B + a) :: st)) := by
  simp only [Bool.and_eq_true] at hw
  obtain ⟨w1, w2⟩ := hw
  obtain ⟨k1, k2, k3, k4⟩ := mk_ok hmk
  have hts := F.2.2.2.2.1
  have hKw := F.2.2.2.2.2
  have hP : PreS s H (PK D CA B sa sv (.ref a :: as) r g hi) (.ref (B + a) :: as.map (tr B sa)) := ⟨PK.blind, fun U hU hWm => ⟨rfl, by rw [hU]; exact hKw.warm hWm (fun q h1 h2 => hS.2.1 q h1 h2), hK.warm hWm, by rw [hU]; exact hW⟩⟩
  have hrm : (rmC d mc ms).frames + 1 ≤ R.frames ∧ 8 + (mL mk + 11) + (rmC d mc ms).locals ≤ R.locals := ⟨hR.1, by show 8 + (mL mk + 11) + 64 * d ≤ R.locals; omega⟩
  have hret : mcw (mt mk) = .code (mY mk) (mB mk) (mL mk) none := by
    show Cond.code (mY mk) (mB mk) (mL mk) (mR mk) = _
    rw [hrt]
  have hws : TS mk = .code (mY mk) (mB mk) (mL mk) none :: GT := by
    show mcw (mt mk) :: GT = _
    rw [hret]
  have hr : va_Run p l e R s m args below meth c H locs cells slots mc ms (F0 m pc ls ((as.map (tr B sa)).reverse ++ .ref (B + a) :: st)) st (QK D CA B r' g' hi' (Value.ref (B + a) :: as.map (tr B sa)).toArray) (AB B) := by
    rcases hlk with hlk | hlk
    · exact va_runI (y := mY mk) (bytes := mB mk) (maxL := mL mk) ⟨F.1, F.2.1, F.2.2.1, F.2.2.2.1, hts⟩ (h l D CA B sa sv) ⟨callB_of (R := R) n hts (good_TS hmk) hws rfl rfl (hts _ (in_TS w2)) (hts _ (in_TS hlk)) ⟨k2, k3, hp⟩ hrm, hnm, hts _ (in_TS w1)⟩ hP rfl (by rw [List.length_map]; exact hn) hsz rfl (lv_room hst) hd hc
    · have hnw : va_Nw (.methodLinkNest (Rn (mO mi)) ix (mY mk) "DayPort") s := hK.2 (Rn (mO mi), ix, mY mk) hlk
      exact va_runIN (own := Rn (mO mi)) (index := ix) (y := mY mk) (bytes := mB mk) (maxL := mL mk) (host := "DayPort") ⟨F.1, F.2.1, F.2.2.1, F.2.2.2.1, hts⟩ (h l D CA B sa sv) ⟨va_cnB (R := R) n hts (good_TS hmk) hws rfl rfl hnw (hts _ (in_TS w2)) ⟨k2, k3, hp⟩ hrm, hnm, hts _ (in_TS w1)⟩ hP rfl (by rw [List.length_map]; exact hn) hsz rfl (lv_room hst) hd hc
  intro T hT X
  obtain ⟨v, st₀, t, T', L, h0, X', hL, e1, e2, ⟨hv, hW', hF⟩, stp⟩ := hr T hT X
  injection hv with hv
  subst hv
  obtain ⟨t2, a1, b1⟩ := kk t.heap (locs ++ L) (hS.join h0 hF hL) hW' T' e1 X'
  exact ⟨t2, stp t2 a1, b1⟩
end
