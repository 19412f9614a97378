/-! THE ABSTRACT MACHINE, fifth part: what must be shown of a stretch of code, computed (stp, blk), and that it is enough -/
def OB (a ci : Nat) (X : Prop) : Prop := match SH a with
  | some (.inl c) => bif Nat.beq c ci then X else False
  | _ => False
theorem OB_e {a ci : Nat} {X : Prop} (h : OB a ci X) : SH a = some (.inl ci) ∧ X := by
  unfold OB at h
  split at h
  · rename_i c hc
    cases hb : Nat.beq c ci with
    | true => rw [hb] at h; exact ⟨by rw [hc, Nat.eq_of_beq_eq_true hb], h⟩
    | false => rw [hb] at h; exact h.elim
  · exact h.elim
theorem OB_i {a ci : Nat} {X : Prop} (h : SH a = some (.inl ci)) (x : X) : OB a ci X := by
  unfold OB; rw [h]; show cond _ _ _; rw [beq_same]; exact x
def AR (a t : Nat) (K : Nat → Prop) : Prop := match SH a with
  | some (.inr q) => bif Nat.beq q.1 t then K q.2 else False
  | _ => False
theorem AR_e {a t : Nat} {K : Nat → Prop} (h : AR a t K) : ∃ n, SH a = some (.inr (t, n)) ∧ K n := by
  unfold AR at h
  split at h
  · rename_i q hc
    cases hb : Nat.beq q.1 t with
    | true => rw [hb] at h; exact ⟨q.2, by rw [hc, ← Nat.eq_of_beq_eq_true hb], h⟩
    | false => rw [hb] at h; exact h.elim
  · exact h.elim
theorem AR_i {a t n : Nat} {K : Nat → Prop} (h : SH a = some (.inr (t, n))) (x : K n) : AR a t K := by
  unfold AR; rw [h]; show cond _ _ _; rw [beq_same]; exact x
/-- any array -/
def AY (a : Nat) (K : Nat → Nat → Prop) : Prop := match SH a with
  | some (.inr q) => K q.1 q.2
  | _ => False
theorem AY_e {a : Nat} {K : Nat → Nat → Prop} (h : AY a K) : ∃ t n, SH a = some (.inr (t, n)) ∧ K t n := by
  unfold AY at h
  split at h
  · rename_i q hc
    exact ⟨q.1, q.2, hc, h⟩
  · exact h.elim
theorem AY_i {a t n : Nat} {K : Nat → Nat → Prop} (h : SH a = some (.inr (t, n))) (x : K t n) : AY a K := by
  unfold AY; rw [h]; exact x
def IX (i : Int32) (n : Nat) (K : Nat → Prop) : Prop := ∃ q : Nat, i = nI q ∧ q < n ∧ K q
def RF (s v : Option Nat) (K : Nat → Prop) : Prop := match s with
  | some b => K b
  | none => ∃ b, v = some b ∧ K b
theorem RF_i {s v : Option Nat} {K : Nat → Prop} {b : Nat} (h : s = some b ∨ (s = none ∧ v = some b)) (x : K b) : RF s v K := by
  unfold RF
  rcases h with rfl | ⟨rfl, rfl⟩
  · exact x
  · exact ⟨b, rfl, x⟩
def tkA (n : Nat) (st acc : List Value) : Option (List Value × List Value) := match n with
  | 0 => some (acc, st)
  | n + 1 => match st with
    | v :: t => tkA n t (v :: acc)
    | [] => none
theorem tkA_ok : ∀ (n : Nat) (st acc as t : List Value), tkA n st acc = some (as, t) → ∃ bs, as = bs ++ acc ∧ st = bs.reverse ++ t ∧ bs.length = n := by
  intro n
  induction n with
  | zero =>
    intro st acc as t h
    simp only [tkA, Option.some.injEq, Prod.mk.injEq] at h
    obtain ⟨rfl, rfl⟩ := h
    exact ⟨[], rfl, rfl, rfl⟩
  | succ n ih =>
    intro st acc as t h
    cases st with
    | nil => simp [tkA] at h
    | cons v s =>
      obtain ⟨bs, h1, h2, h3⟩ := ih s (v :: acc) as t h
      exact ⟨bs ++ [v], by rw [h1]; simp, by rw [h2]; simp, by simp [h3]⟩
abbrev NX : Type := LV → List Value → Rr → Gi → Gl → Prop
def tsw (pc : Nat) (x : Int32) (jd : Prop) (jm : Nat → Prop) (l : List Int) (i : Int) : Prop := match l with
  | [] => jd
  | o :: t => (x = c32 i → jm ((pc : Int) + o).toNat) ∧ (¬ x = c32 i → tsw pc x jd jm t (i + 1))
def cmpP (c : Jvm.ClassFile.Cond) (x y : Int32) : Prop := match c with
  | .eq => x = y
  | .ne => x = y
  | .lt => x < y
  | .ge => y ≤ x
  | .gt => y < x
  | .le => x ≤ y
def isNe (c : Jvm.ClassFile.Cond) : Bool := match c with
  | .ne => true
  | _ => false
def rkI (K : Int32 → Rr → Gi → Gl → Prop) : QT := fun v r g j => match v with
  | some (.int x) => K x r g j
  | _ => False
def rkJ (K : Int64 → Rr → Gi → Gl → Prop) : QT := fun v r g j => match v with
  | some (.long x) => K x r g j
  | _ => False
def rkV (K : Rr → Gi → Gl → Prop) : QT := fun v r g j => match v with
  | none => K r g j
  | _ => False
/-- behind a call, by what it returns -/
def rk (rt : Option FieldType) (K : List Value → Rr → Gi → Gl → Prop) : QT := match rt with
  | none => rkV (fun r g j => K [] r g j)
  | some .long => rkJ (fun x r g j => K [.long x] r g j)
  | _ => rkI (fun x r g j => K [.int x] r g j)
/-- a copied stretch of one array in another -/
def cpI (g : Gi) (a b sp dp n : Nat) : Gi := fun a' => bif Nat.beq a' b then va_cpy (g a) (g b) sp dp n else g a'
/-- what an instruction asks for: nx goes on behind it, jm at a place of the code -/
def stp (oc nl : Nat) (rt : Option FieldType) (d pc : Nat) (ins : Instr) (tgt : Nat) (lv : LV) (st : List Value) (r : Rr) (g : Gi) (j : Gl) (nx : NX) (jm : Nat → NX) (Q : QT) : Prop :=
  match ins with
  | .iconst n => nx lv (.int (c32 n) :: st) r g j
  | .bipush n => nx lv (.int (c32 n) :: st) r g j
  | .sipush n => nx lv (.int (c32 n) :: st) r g j
  | .lconst n => nx lv (.long (lN n) :: st) r g j
  | .ldc ix => match lk2 ((ciTL[oc]?).getD []) ix with
    | some q => nx lv (.int (c32 q.1) :: st) r g j
    | none => match lk2 ((csTL[oc]?).getD []) ix with
      | some q => nx lv (.float (UInt32.ofNat q.1) :: st) r g j
      | none => False
  | .ldc_w ix => match lk2 ((ciTL[oc]?).getD []) ix with
    | some q => nx lv (.int (c32 q.1) :: st) r g j
    | none => match lk2 ((csTL[oc]?).getD []) ix with
      | some q => nx lv (.float (UInt32.ofNat q.1) :: st) r g j
      | none => False
  | .ldc2_w ix => match lk2 ((clTL[oc]?).getD []) ix with
    | some q => nx lv (.long (c64 q.1) :: st) r g j
    | none => False
  | .iload_n k => match rLk lv k with
    | some (.int x) => nx lv (.int x :: st) r g j
    | _ => False
  | .iload k => match rLk lv k with
    | some (.int x) => nx lv (.int x :: st) r g j
    | _ => False
  | .lload_n k => match rLk lv k with
    | some (.long x) => nx lv (.long x :: st) r g j
    | _ => False
  | .lload k => match rLk lv k with
    | some (.long x) => nx lv (.long x :: st) r g j
    | _ => False
  | .aload_n k => match rLk lv k with
    | some (.ref x) => nx lv (.ref x :: st) r g j
    | some (.float x) => nx lv (.float x :: st) r g j
    | _ => False
  | .aload k => match rLk lv k with
    | some (.ref x) => nx lv (.ref x :: st) r g j
    | some (.float x) => nx lv (.float x :: st) r g j
    | _ => False
  | .istore_n k => match st with
    | .int x :: t => bif Nat.blt k nl then nx (st1 lv k (.int x)) t r g j else False
    | _ => False
  | .istore k => match st with
    | .int x :: t => bif Nat.blt k nl then nx (st1 lv k (.int x)) t r g j else False
    | _ => False
  | .lstore_n k => match st with
    | .long x :: t => bif Nat.blt (k + 1) nl then nx (st2 lv k (.long x)) t r g j else False
    | _ => False
  | .lstore k => match st with
    | .long x :: t => bif Nat.blt (k + 1) nl then nx (st2 lv k (.long x)) t r g j else False
    | _ => False
  | .astore_n k => match st with
    | .ref x :: t => bif Nat.blt k nl then nx (st1 lv k (.ref x)) t r g j else False
    | _ => False
  | .astore k => match st with
    | .ref x :: t => bif Nat.blt k nl then nx (st1 lv k (.ref x)) t r g j else False
    | _ => False
  | .iinc k n => match rLk lv k with
    | some (.int x) => bif Nat.blt k nl then nx (st1 lv k (.int (x + c32 n))) st r g j else False
    | _ => False
  | .iadd => match st with
    | .int b :: .int a :: t => nx lv (.int (a + b) :: t) r g j
    | _ => False
  | .isub => match st with
    | .int b :: .int a :: t => nx lv (.int (a - b) :: t) r g j
    | _ => False
  | .imul => match st with
    | .int b :: .int a :: t => nx lv (.int (a * b) :: t) r g j
    | _ => False
  | .iand => match st with
    | .int b :: .int a :: t => nx lv (.int (a &&& b) :: t) r g j
    | _ => False
  | .ior => match st with
    | .int b :: .int a :: t => nx lv (.int (a ||| b) :: t) r g j
    | _ => False
  | .ishl => match st with
    | .int b :: .int a :: t => nx lv (.int (a <<< (b &&& 31)) :: t) r g j
    | _ => False
  | .ishr => match st with
    | .int b :: .int a :: t => nx lv (.int (a >>> (b &&& 31)) :: t) r g j
    | _ => False
  | .ineg => match st with
    | .int a :: t => nx lv (.int (-a) :: t) r g j
    | _ => False
  | .idiv => match st with
    | .int b :: .int a :: t => (¬ b = 0) ∧ nx lv (.int (a / b) :: t) r g j
    | _ => False
  | .irem => match st with
    | .int b :: .int a :: t => (¬ b = 0) ∧ nx lv (.int (a - a / b * b) :: t) r g j
    | _ => False
  | .ladd => match st with
    | .long b :: .long a :: t => nx lv (.long (a + b) :: t) r g j
    | _ => False
  | .lmul => match st with
    | .long b :: .long a :: t => nx lv (.long (a * b) :: t) r g j
    | _ => False
  | .land => match st with
    | .long b :: .long a :: t => nx lv (.long (a &&& b) :: t) r g j
    | _ => False
  | .lor => match st with
    | .long b :: .long a :: t => nx lv (.long (a ||| b) :: t) r g j
    | _ => False
  | .lxor => match st with
    | .long b :: .long a :: t => nx lv (.long (a ^^^ b) :: t) r g j
    | _ => False
  | .lshl => match st with
    | .int b :: .long a :: t => nx lv (.long (a <<< (b.toInt64 &&& 63)) :: t) r g j
    | _ => False
  | .lshr => match st with
    | .int b :: .long a :: t => nx lv (.long (a >>> (b.toInt64 &&& 63)) :: t) r g j
    | _ => False
  | .lcmp => match st with
    | .long b :: .long a :: t => nx lv (.int (lg_cmp a b) :: t) r g j
    | _ => False
  | .ldiv => match st with
    | .long b :: .long a :: t => (¬ b = 0) ∧ nx lv (.long (a / b) :: t) r g j
    | _ => False
  | .lrem => match st with
    | .long b :: .long a :: t => (¬ b = 0) ∧ nx lv (.long (a - a / b * b) :: t) r g j
    | _ => False
  | .i2l => match st with
    | .int a :: t => nx lv (.long a.toInt64 :: t) r g j
    | _ => False
  | .l2i => match st with
    | .long a :: t => nx lv (.int a.toInt32 :: t) r g j
    | _ => False
  | .i2b => match st with
    | .int a :: t => nx lv (.int a.toInt8.toInt32 :: t) r g j
    | _ => False
  | .i2c => match st with
    | .int a :: t => nx lv (.int (a.toUInt32 % 65536).toInt32 :: t) r g j
    | _ => False
  | .dup => match st with
    | v :: t => bif Nat.beq v.category 1 then nx lv (v :: v :: t) r g j else False
    | _ => False
  | .pop => match st with
    | v :: t => bif Nat.beq v.category 1 then nx lv t r g j else False
    | _ => False
  | .dup2 => match st with
    | u :: v :: t => bif Nat.beq u.category 1 && Nat.beq v.category 1 then nx lv (u :: v :: u :: v :: t) r g j else (bif Nat.beq u.category 2 then nx lv (u :: u :: v :: t) r g j else False)
    | [u] => bif Nat.beq u.category 2 then nx lv [u, u] r g j else False
    | _ => False
  | .ifCond c _ => match st with
    | .int x :: t => bif isNe c then (cmpP c x 0 → nx lv t r g j) ∧ (¬ cmpP c x 0 → jm tgt lv t r g j) else (cmpP c x 0 → jm tgt lv t r g j) ∧ (¬ cmpP c x 0 → nx lv t r g j)
    | _ => False
  | .if_icmp c _ => match st with
    | .int y :: .int x :: t => bif isNe c then (cmpP c x y → nx lv t r g j) ∧ (¬ cmpP c x y → jm tgt lv t r g j) else (cmpP c x y → jm tgt lv t r g j) ∧ (¬ cmpP c x y → nx lv t r g j)
    | _ => False
  | .goto _ => jm tgt lv st r g j
  | .getfield ix => match lk2 (flT oc) ix with
    | some (ci, k, _) => match st with
      | .ref a :: t => OB a ci (match fk (tyn ci k) with
        | 0 => nx lv (.int (g a k) :: t) r g j
        | 1 => nx lv (.long (j a k) :: t) r g j
        | 2 => RF (RS a k) (r a k) (fun b => nx lv (.ref b :: t) r g j)
        | _ => False)
      | _ => False
    | none => False
  | .putfield ix => match lk2 (flT oc) ix with
    | some (ci, k, _) => bif (Tn ci k).2.2.2 then False else match st with
      | .int x :: .ref a :: t => OB a ci (match tyn ci k with
        | .int => nx lv t r (uI g a k x) j
        | .boolean => (x = 0 ∨ x = 1) ∧ nx lv t r (uI g a k x) j
        | _ => False)
      | .long x :: .ref a :: t => OB a ci (match tyn ci k with
        | .long => nx lv t r g (uJ j a k x)
        | _ => False)
      | .ref b :: .ref a :: t => OB a ci (match tyn ci k with
        | .object _ => RS a k = none ∧ nx lv t (uR r a k (some b)) g j
        | _ => False)
      | _ => False
    | none => False
  | .iaload => match st with
    | .int i :: .ref a :: t => AR a 0 (fun n => IX i n (fun q => nx lv (.int (g a q) :: t) r g j))
    | _ => False
  | .laload => match st with
    | .int i :: .ref a :: t => AR a 3 (fun n => IX i n (fun q => nx lv (.long (j a q) :: t) r g j))
    | _ => False
  | .baload => match st with
    | .int i :: .ref a :: t => AY a (fun ty n => match ty with
      | 1 => IX i n (fun q => nx lv (.int (g a q) :: t) r g j)
      | 2 => IX i n (fun q => nx lv (.int (g a q) :: t) r g j)
      | _ => False)
    | _ => False
  | .aaload => match st with
    | .int i :: .ref a :: t => AY a (fun ty n => bif Nat.beq (fk (aT ty)) 2 then IX i n (fun q => RF (RS a q) (r a q) (fun b => nx lv (.ref b :: t) r g j)) else False)
    | _ => False
  | .iastore => match st with
    | .int x :: .int i :: .ref a :: t => AR a 0 (fun n => IX i n (fun q => nx lv t r (uI g a q x) j))
    | _ => False
  | .lastore => match st with
    | .long x :: .int i :: .ref a :: t => AR a 3 (fun n => IX i n (fun q => nx lv t r g (uJ j a q x)))
    | _ => False
  | .bastore => match st with
    | .int x :: .int i :: .ref a :: t => AY a (fun ty n => match ty with
      | 1 => IX i n (fun q => nx lv t r (uI g a q x.toInt8.toInt32) j)
      | 2 => (x = 0 ∨ x = 1) ∧ IX i n (fun q => nx lv t r (uI g a q x) j)
      | _ => False)
    | _ => False
  | .aastore => match st with
    | .ref b :: .int i :: .ref a :: t => AR a 6 (fun n => OB b 8 (IX i n (fun q => RS a q = none ∧ nx lv t (uR r a q (some b)) g j)))
    | _ => False
  | .arraylength => match st with
    | .ref a :: t => AY a (fun _ n => nx lv (.int (nI n) :: t) r g j)
    | _ => False
  | .tableswitch df lo _ offs => match st with
    | .int x :: t => tsw pc x (jm ((pc : Int) + df).toNat lv t r g j) (fun z => jm z lv t r g j) offs.toList lo
    | _ => False
  | .invokevirtual ix => match d with
    | 0 => False
    | d + 1 => match lk2 (mlT oc) ix with
      | some (0, mq, n, _) => match tkA n st [] with
        | some (as, .ref a :: t) => bif Nat.ble ((t.map fun v => v.category).sum) 8 then OB a (mO mq) (Cm d mq (.ref a :: as) r g j (rk (mR mq) (fun vs r g j => nx lv (vs ++ t) r g j))) else False
        | _ => False
      | _ => False
  | .invokestatic ix => match d with
    | 0 => False
    | d + 1 => match lk2 (mlT oc) ix with
      | some (1, mq, n, _) => match tkA n st [] with
        | some (as, t) => bif Nat.ble ((t.map fun v => v.category).sum) 8 then Cm d mq as r g j (rk (mR mq) (fun vs r g j => nx lv (vs ++ t) r g j)) else False
        | _ => False
      | some (2, _, _, _) => match st with
        | .int y :: .int x :: t => bif Nat.ble ((t.map fun v => v.category).sum) 8 then nx lv (.int (if x < y then y else x) :: t) r g j else False
        | _ => False
      | some (3, _, _, _) => match st with
        | .int y :: .int x :: t => bif Nat.ble ((t.map fun v => v.category).sum) 8 then nx lv (.int (if y < x then y else x) :: t) r g j else False
        | _ => False
      | some (4, _, _, _) => match st with
        | .int n :: .int dp :: .ref b :: .int sp :: .ref a :: t => bif Nat.ble ((t.map fun v => v.category).sum) 8 then AR a 0 (fun n0 => AR b 0 (fun n1 => ∃ n' sp' dp' : Nat, n = nI n' ∧ sp = nI sp' ∧ dp = nI dp' ∧ sp' + n' ≤ n0 ∧ dp' + n' ≤ n1 ∧ nx lv t r (cpI g a b sp' dp' n') j)) else False
        | _ => False
      | _ => False
  | .ireturn => match st with
    | [.int x] => match rt with
      | some .int => Q (some (.int x)) r g j
      | some .boolean => (x = 0 ∨ x = 1) ∧ Q (some (.int x)) r g j
      | _ => False
    | _ => False
  | .lreturn => match st with
    | [.long x] => match rt with
      | some .long => Q (some (.long x)) r g j
      | _ => False
    | _ => False
  | .return_ => match st with
    | [] => match rt with
      | none => Q none r g j
      | _ => False
    | _ => False
  | _ => False
def lenI (ins : Instr) (tgt : Nat) : Nat := match ins with
  | .bipush _ => 2
  | .sipush _ => 3
  | .ldc _ => 2
  | .ldc_w _ => 3
  | .ldc2_w _ => 3
  | .iload _ => 2
  | .lload _ => 2
  | .aload _ => 2
  | .istore _ => 2
  | .lstore _ => 2
  | .astore _ => 2
  | .iinc _ _ => 3
  | .ifCond _ _ => 3
  | .if_icmp _ _ => 3
  | .goto _ => 3
  | .getfield _ => 3
  | .putfield _ => 3
  | .getstatic _ => 3
  | .invokevirtual _ => 3
  | .invokestatic _ => 3
  | .invokespecial _ => 3
  | .new _ => 3
  | .anewarray _ => 3
  | .newarray _ => 2
  | .multianewarray _ _ => 4
  | .tableswitch _ _ _ _ => tgt
  | _ => 1
def insOk (pc : Nat) (ins : Instr) (tgt : Nat) : Bool := match ins with
  | .iconst n => decide (Int32.ofInt n = c32 n)
  | .bipush n => decide ((Int8.ofInt n).toInt32 = c32 n)
  | .sipush n => decide ((Int16.ofInt n).toInt32 = c32 n)
  | .iinc _ n => decide (Int32.ofInt n = c32 n)
  | .ifCond _ off => decide ((pc : Int) + off = (tgt : Int))
  | .if_icmp _ off => decide ((pc : Int) + off = (tgt : Int))
  | .goto off => decide ((pc : Int) + off = (tgt : Int))
  | .tableswitch df lo hi offs => decide (lo = 0) && (decide (hi + 1 = (offs.size : Int)) && (decide (0 ≤ (pc : Int) + df) && (decide (offs.size < 100) && offs.toList.all (fun o => decide (0 ≤ (pc : Int) + o)))))
  | _ => true
