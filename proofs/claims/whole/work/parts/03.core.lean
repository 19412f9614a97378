/-! THE ABSTRACT MACHINE, first half: the world by places, the judgement G (from this pc on the method comes to its end with Q), the contract Cm of a method -/
/-- a value of the machine: places count from the world's base B; a float stands for a String constant by its number -/
def tr (B : Nat) (sa : Nat → Nat) (v : Value) : Value := match v with
  | .ref a => .ref (B + a)
  | .float k => .ref (sa k.toNat)
  | v => v
theorem tr_cat (B : Nat) (sa : Nat → Nat) (v : Value) : (tr B sa v).category = v.category := by cases v <;> rfl
abbrev LV : Type := List (Nat × Value)
def trl (B : Nat) (sa : Nat → Nat) (lv : LV) : LV := lv.map (fun q => (q.1, tr B sa q.2))
def trs (B : Nat) (sa : Nat → Nat) (st : List Value) : List Value := st.map (tr B sa)
def rLk (lv : LV) (i : Nat) : Option Value := match lv with
  | [] => none
  | q :: t => bif Nat.beq q.1 i then some q.2 else rLk t i
theorem rLk_mem {lv : LV} {i : Nat} {v : Value} (h : rLk lv i = some v) : (i, v) ∈ lv := by
  induction lv with
  | nil => simp [rLk] at h
  | cons q t ih =>
    unfold rLk at h
    cases hb : Nat.beq q.1 i with
    | true =>
      rw [hb] at h
      simp only [cond_true, Option.some.injEq] at h
      have := Nat.eq_of_beq_eq_true hb
      subst this
      subst h
      exact List.mem_cons_self
    | false =>
      rw [hb] at h
      exact List.mem_cons_of_mem _ (ih h)
def f1 (i : Nat) (q : Nat × Value) : Bool := !(q.1 == i) && !(q.1 + 1 == i && q.2.category == 2)
def f2 (i : Nat) (q : Nat × Value) : Bool := !(q.1 == i) && (!(q.1 == i + 1) && !(q.1 + 1 == i && q.2.category == 2))
def st1 (lv : LV) (i : Nat) (v : Value) : LV := (i, v) :: lv.filter (f1 i)
def st2 (lv : LV) (i : Nat) (v : Value) : LV := (i, v) :: lv.filter (f2 i)
theorem trl_filter {B : Nat} {sa : Nat → Nat} (f : Nat × Value → Bool) (hf : ∀ q : Nat × Value, f (q.1, tr B sa q.2) = f q) (lv : LV) : (trl B sa lv).filter f = trl B sa (lv.filter f) := by
  induction lv with
  | nil => rfl
  | cons q t ih =>
    show List.filter f ((q.1, tr B sa q.2) :: trl B sa t) = _
    rw [List.filter_cons, List.filter_cons, hf q]
    split
    · rw [ih]; rfl
    · exact ih
theorem trl_st1 {B : Nat} {sa : Nat → Nat} (lv : LV) (i : Nat) (v : Value) : (i, tr B sa v) :: (trl B sa lv).filter (fun q => !(q.1 == i) && !(q.1 + 1 == i && q.2.category == 2)) = trl B sa (st1 lv i v) := by
  show _ :: (trl B sa lv).filter (f1 i) = _
  rw [trl_filter (f1 i) (fun q => by simp only [f1, tr_cat])]
  rfl
theorem trl_st2 {B : Nat} {sa : Nat → Nat} (lv : LV) (i : Nat) (v : Value) : (i, tr B sa v) :: (trl B sa lv).filter (fun q => !(q.1 == i) && (!(q.1 == i + 1) && !(q.1 + 1 == i && q.2.category == 2))) = trl B sa (st2 lv i v) := by
  show _ :: (trl B sa lv).filter (f2 i) = _
  rw [trl_filter (f2 i) (fun q => by simp only [f2, tr_cat])]
  rfl
theorem trl_at {B : Nat} {sa : Nat → Nat} {ls : Array Slot} {n i : Nat} {lv : LV} {v : Value} (hl : lv_has ls n (trl B sa lv)) (h : rLk lv i = some v) : ls[i]? = some (.val (tr B sa v)) := hl.2.2 (i, tr B sa v) (List.mem_map.mpr ⟨_, rLk_mem h, rfl⟩)
/-- the listed places of the locals, in this order -/
def pick (lv : LV) (ks : List Nat) : Option LV := match ks with
  | [] => some []
  | k :: t => match rLk lv k, pick lv t with
    | some v, some l => some ((k, v) :: l)
    | _, _ => none
theorem pick_sub {lv : LV} : ∀ {ks : List Nat} {l : LV}, pick lv ks = some l → ∀ q ∈ l, q ∈ lv := by
  intro ks
  induction ks with
  | nil => intro l h q hq; simp only [pick, Option.some.injEq] at h; subst h; cases hq
  | cons k t ih =>
    intro l h q hq
    unfold pick at h
    cases h1 : rLk lv k with
    | none => rw [h1] at h; simp at h
    | some v =>
      cases h2 : pick lv t with
      | none => rw [h1, h2] at h; simp at h
      | some l2 =>
        rw [h1, h2] at h
        simp only [Option.some.injEq] at h
        subst h
        rcases List.mem_cons.mp hq with rfl | hq
        · exact rLk_mem h1
        · exact ih h2 q hq
theorem trl_sub {B : Nat} {sa : Nat → Nat} {ls : Array Slot} {n : Nat} {lv l : LV} (hl : lv_has ls n (trl B sa lv)) (h : ∀ q ∈ l, q ∈ lv) : lv_has ls n (trl B sa l) := by
  refine ⟨hl.1, hl.2.1, fun q hq => ?_⟩
  obtain ⟨z, hz, rfl⟩ := List.mem_map.mp hq
  exact hl.2.2 _ (List.mem_map.mpr ⟨z, h z hz, rfl⟩)
/-- numbers in the code -/
def c32 (n : Int) : Int32 := match n with
  | .ofNat k => nI k
  | .negSucc 0 => -1
  | .negSucc (k + 1) => -(nI (k + 2))
def c64 (n : Int) : Int64 := match n with
  | .ofNat k => lN k
  | .negSucc k => -(lN (k + 1))
/-- what a field or an element holds -/
def fv (B : Nat) (t : FieldType) (r : Option Nat) (x : Int32) (y : Int64) : Value := match t with
  | .long => .long y
  | .object _ => va_rf (r.map (fun a => B + a))
  | .array _ => va_rf (r.map (fun a => B + a))
  | _ => .int x
def Wd (D : va_G) (CA : Nat → ClassId) (B : Nat) (r : Rr) (g : Gi) (j : Gl) (H : Heap) : Prop :=
  (∀ a ci, SH a = some (.inl ci) → t_OB (B + a) (D.1 ci) (nf ci) (D.2 ci) H (fun k => fv B (tyn ci k) (r a k) (g a k) (j a k))) ∧
  (∀ a t n, SH a = some (.inr (t, n)) → H[B + a]? = some (arrV (CA t) n (fun i => fv B (aT t) (r a i) (g a i) (j a i)))) ∧
  (∀ a k b, RS a k = some b → r a k = some b)
def slen : List Nat := txL.map (fun t => t.length)
def sbyt : List (List Int32) := txL.map (fun t => t.toList.map (fun c => nI c.toNat))
abbrev AB (B : Nat) : Nat → Prop := fun q => B ≤ q
/-- the String constants, by their places; the statics of the JDK; the message of led -/
def SS (B : Nat) (sa sv : Nat → Nat) (U : State) (H : Heap) : Prop := ∀ i : Nat, i < 25 → va_O "java/lang/String" (sa i) (AB B) U H ∧ va_OF "java/lang/String" "coder" "B" (.int 0) (sa i) (AB B) U H ∧ va_OF "java/lang/String" "value" "[B" (.ref (sv i)) (sa i) (AB B) U H ∧ va_T .byte (sv i) (slen.getD i 0) (fun j => .int ((sbyt.getD i []).getD j 0)) (AB B) U H
def SZ (B : Nat) (U : State) (H : Heap) : Prop := va_Z "java/lang/String" "COMPACT_STRINGS" "Z" (.int 1) (AB B) U H ∧ va_Zq "jdk/internal/util/Preconditions" "SIOOBE_FORMATTER" "Ljava/util/function/BiFunction;" (AB B) U H ∧ va_Zq "java/lang/Throwable" "UNASSIGNED_STACK" "[Ljava/lang/StackTraceElement;" (AB B) U H ∧ va_Zq "java/lang/Throwable" "SUPPRESSED_SENTINEL" "Ljava/util/List;" (AB B) U H ∧ ∃ a : Nat, vk_R RX9 355 "no such broken crate" a U
theorem SS.moved {B : Nat} {sa sv : Nat → Nat} {u U : State} {H : Heap} (hvm : u.vm.Alike U.vm) (h : SS B sa sv u H) : SS B sa sv U H :=
  fun i hi => ⟨va_O.moved hvm (h i hi).1, va_OF.moved hvm (h i hi).2.1, va_OF.moved hvm (h i hi).2.2.1, va_T.moved hvm (h i hi).2.2.2⟩
theorem SS.kept {B : Nat} {sa sv : Nat → Nat} {U : State} {H H1 : Heap} (h : SS B sa sv U H) (hq : ∀ a : Nat, a < H.size → ¬ AB B a → H1[a]? = H[a]?) : SS B sa sv U H1 :=
  fun i hi => ⟨(h i hi).1.kept hq, (h i hi).2.1.kept hq, (h i hi).2.2.1.kept hq, (h i hi).2.2.2.kept hq⟩
theorem SZ.warm {B : Nat} {s U : State} {H H1 : Heap} (h : SZ B s H) (hW : s.WarmedH U.vm) (hq : ∀ a : Nat, a < H.size → ¬ AB B a → H1[a]? = H[a]?) : SZ B U H1 := by
  obtain ⟨h1, h2, h3, h4, a, h5⟩ := h
  exact ⟨(va_Z.moved hW.alike h1).kept hq, (va_Zq.moved hW.alike h2).kept hq, (va_Zq.moved hW.alike h3).kept hq, (va_Zq.moved hW.alike h4).kept hq, a, h5.warm hW⟩
theorem SZ.same {B : Nat} {s U : State} {H : Heap} (h : SZ B s H) (hv : U.vm = s.vm) : SZ B U H := by
  have ha : s.vm.Alike U.vm := by rw [hv]; exact Vm.Alike.refl _
  obtain ⟨h1, h2, h3, h4, a, h5⟩ := h
  exact ⟨va_Z.moved ha h1, va_Zq.moved ha h2, va_Zq.moved ha h3, va_Zq.moved ha h4, a, h5.same hv⟩
/-- what the tables say, and the String constants -/
def Kw (D : va_G) (CA : Nat → ClassId) (B : Nat) (sa sv : Nat → Nat) (U : State) (H : Heap) : Prop :=
  (∀ ci, ci < 11 → u_Kn U (Rn ci) (Tn ci) (nf ci) (D.1 ci) (D.2 ci)) ∧ (∀ t, t < 8 → ArrOfT U (CA t) (aT t) ∧ va_RA U (CA t) (aT t)) ∧
  (SS B sa sv U H ∧ SZ B U H) ∧ ∀ oc, ∀ q ∈ (csTL[oc]?).getD [], vk_R (Rn oc) q.1 ((txL[q.2.1]?).getD "") (sa q.2.1) U
theorem Kw.warm {D : va_G} {CA : Nat → ClassId} {B : Nat} {sa sv : Nat → Nat} {s U : State} {H H1 : Heap} (h : Kw D CA B sa sv s H) (hW : s.WarmedH U.vm) (hq : ∀ a : Nat, a < H.size → ¬ AB B a → H1[a]? = H[a]?) : Kw D CA B sa sv U H1 :=
  ⟨fun ci hc => u_Kn_moved hW.alike (h.1 ci hc), fun t ht => ⟨arrOfT_moved hW.alike (h.2.1 t ht).1, (h.2.1 t ht).2.moved hW.alike⟩, ⟨(h.2.2.1.1.moved hW.alike).kept hq, h.2.2.1.2.warm hW hq⟩, fun oc q hq => (h.2.2.2 oc q hq).warm hW⟩
theorem Kw.same {D : va_G} {CA : Nat → ClassId} {B : Nat} {sa sv : Nat → Nat} {s U : State} {H : Heap} (h : Kw D CA B sa sv s H) (hv : U.vm = s.vm) : Kw D CA B sa sv U H := by
  have ha : s.vm.Alike U.vm := by rw [hv]; exact Vm.Alike.refl _
  exact ⟨fun ci hc => u_Kn_moved ha (h.1 ci hc), fun t ht => ⟨arrOfT_moved ha (h.2.1 t ht).1, (h.2.1 t ht).2.moved ha⟩, ⟨h.2.2.1.1.moved ha, h.2.2.1.2.same hv⟩, fun oc q hq => (h.2.2.2 oc q hq).same hv⟩
abbrev GT : List Cond := lw_tbl.filter goodWord
abbrev TS (mi : Nat) : List Cond := mcw (mt mi) :: GT
def rmd (d : Nat) : Room := { frames := d, cells := 0, slots := 0, locals := 64 * d }
abbrev QT : Type := Option Value → Rr → Gi → Gl → Prop
def QC (D : va_G) (CA : Nat → ClassId) (B : Nat) (sa : Nat → Nat) (Q : QT) : Array Value → State → Outcome → State → Prop := fun _ st oc t =>
  (∃ (v : Option Value) (r : Rr) (g : Gi) (j : Gl), oc = .returned (v.map (tr B sa)) ∧ Q v r g j ∧ Wd D CA B r g j t.heap) ∧ va_F (AB B) st t
def PC (D : va_G) (CA : Nat → ClassId) (B : Nat) (sa sv : Nat → Nat) (as : List Value) (r : Rr) (g : Gi) (j : Gl) : Array Value → State → Prop := fun v U =>
  v = (as.map (tr B sa)).toArray ∧ Kw D CA B sa sv U U.heap ∧ Wd D CA B r g j U.heap
def Fx (p : Program) (s : State) (m : MethodId) (args : Array Value) (meth : Method) (c : Code) (mi : Nat) (D : va_G) (CA : Nat → ClassId) (B : Nat) (sa sv : Nat → Nat) : Prop :=
  p.tables.exec = Jvm.exec ∧ c.code = mB mi ∧ c.maxLocals = mL mi ∧ meth.sig.returnType = mR mi ∧ s.vm.findClass (Rn (mO mi)) = some m.cls ∧ (∀ w ∈ TS mi, w.before args s = true) ∧ meth.locks = false ∧ Kw D CA B sa sv s s.heap
/-- from pc on, with these locals and this stack, the method comes to its end, and Q holds of its answer and of the world -/
def G (d mi pc : Nat) (lv : LV) (st : List Value) (r : Rr) (g : Gi) (j : Gl) (Q : QT) : Prop :=
  ∀ (p : Program) (l : Launch) (e : Env) (s : State) (m : MethodId) (args : Array Value) (below : List Frame) (meth : Method) (c : Code) (D : va_G) (CA : Nat → ClassId) (B : Nat) (sa sv : Nat → Nat) (H : Heap) (locs : List Loc) (ls : Array Slot),
    Fx p s m args meth c mi D CA B sa sv → va_S (AB B) s.heap H locs → Wd D CA B r g j H → lv_has ls (mL mi) (trl B sa lv) →
    W p l e (rmd d) s m args below meth c H locs 0 0 (MQ below (QC D CA B sa Q) args s 0 0 (AB B)) (F0 m pc ls (trs B sa st))
/-- the contract of method mi: called with these arguments in this world it returns, and Q holds -/
def Cm (d mi : Nat) (as : List Value) (r : Rr) (g : Gi) (j : Gl) (Q : QT) : Prop :=
  ∀ (l : Launch) (D : va_G) (CA : Nat → ClassId) (B : Nat) (sa sv : Nat → Nat), Met l (mY mi) (TS mi) (rmd d) (PC D CA B sa sv as r g j) (QC D CA B sa Q) 0 0 (AB B)
theorem tr_args (B : Nat) (sa : Nat → Nat) (as : List Value) : ∀ n, lv_args n (as.map (tr B sa)) = trl B sa (lv_args n as) := by
  induction as with
  | nil => intro n; simp [lv_args, trl]
  | cons v t ih => intro n; simp only [List.map_cons, lv_args, tr_cat, ih]; rfl
theorem tr_sl (B : Nat) (sa : Nat → Nat) (as : List Value) : (lg_sl (as.map (tr B sa))).length = (lg_sl as).length := by
  induction as with
  | nil => rfl
  | cons v t ih =>
    have e : ∀ (v : Value) (t : List Value), (lg_sl (v :: t)).length = (if v.category = 2 then 2 else 1) + (lg_sl t).length := by
      intro v t
      show (List.flatMap _ (v :: t)).length = _
      rw [List.flatMap_cons, List.length_append]
      split <;> rfl
    rw [List.map_cons, e, e, tr_cat, ih]
theorem Cm.ofG {d mi : Nat} {as : List Value} {r : Rr} {g : Gi} {j : Gl} {Q : QT} (hm : mi < 254) (hn : (lg_sl as).length ≤ mL mi) (h : G d mi 0 (lv_args 0 as) [] r g j Q) : Cm d mi as r g j Q := by
  intro l D CA B sa sv
  have hk := mt_ok hm
  simp only [mtOk, Bool.and_eq_true, decide_eq_true_eq] at hk
  obtain ⟨hk1, hk2, hk3, -⟩ := hk
  refine Met.ofW (cc := mB mi) (maxL := mL mi) (ret := mR mi) hk1 rfl ?_
  intro p e s m args below meth c s₁ Bd hml hv
  obtain ⟨rfl, hK, hW⟩ := hv
  have hts := atoms_spec (ws := TS mi) Bd.pre
  have hown : s.vm.findClass (Rn (mO mi)) = some m.cls := by rw [hk3]; exact findClass_of_methodNamed Bd.named
  have hl := lv_entry (as.map (tr B sa)) (n := mL mi) (by rw [tr_sl]; exact hn)
  rw [lg_entry_eq]
  rw [tr_args] at hl
  exact h p l e s m _ below meth c D CA B sa sv s.heap [] _ ⟨Bd.exec, Bd.bytes, hml, Bd.returns, hown, hts, Bd.notSynchronized, hK⟩ va_S.rf hW hl
