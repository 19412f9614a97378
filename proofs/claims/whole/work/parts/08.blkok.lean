theorem blt_lt {a b : Nat} (h : Nat.blt a b = true) : a < b := Nat.le_of_ble_eq_true h
theorem bif_e {b : Bool} {X : Prop} (h : bif b then X else False) : b = true ∧ X := by
  cases b with
  | true => exact ⟨rfl, h⟩
  | false => exact h.elim
theorem RF_e {s v : Option Nat} {K : Nat → Prop} (h : RF s v K) (hs : ∀ b, s = some b → v = some b) : ∃ b, v = some b ∧ K b := by
  unfold RF at h
  split at h
  · rename_i b
    exact ⟨b, hs b rfl, h⟩
  · exact h
/-- G with what the world says of fixed references -/
theorem G_fix {d mi pc : Nat} {lv : LV} {st : List Value} {r : Rr} {g : Gi} {j : Gl} {Q : QT} (h : (∀ a k b, RS a k = some b → r a k = some b) → G d mi pc lv st r g j Q) : G d mi pc lv st r g j Q := by
  intro p l e s m args below meth c D CA B sa sv H locs ls F hS hW hl
  exact h hW.2.2 p l e s m args below meth c D CA B sa sv H locs ls F hS hW hl
theorem tsw_mono {pc : Nat} {x : Int32} {jd jd' : Prop} {jm jm' : Nat → Prop} (h1 : jd → jd') (h2 : ∀ z, jm z → jm' z) : ∀ (l : List Int) (i : Int), tsw pc x jd jm l i → tsw pc x jd' jm' l i := by
  intro l
  induction l with
  | nil => intro i h; exact h1 h
  | cons o t ih => intro i h; exact ⟨fun e => h2 _ (h.1 e), fun e => ih _ (h.2 e)⟩
theorem c32_toInt {k : Nat} (h : k < 100) : (c32 (k : Int)).toInt = (k : Int) := nI_toInt (show k < 2 ^ 31 by omega)
/-- a value within the table: the place's own target -/
theorem tsw_in {pc : Nat} {x : Int32} {jd : Prop} {jm : Nat → Prop} : ∀ (l : List Int) (i k : Nat) (o : Int), i + l.length < 100 → tsw pc x jd jm l (i : Int) → x.toInt = ((i + k : Nat) : Int) → l[k]? = some o → jm ((pc : Int) + o).toNat := by
  intro l
  induction l with
  | nil => intro i k o _ _ _ h; simp at h
  | cons a t ih =>
    intro i k o hi h hx hk
    simp only [List.length_cons] at hi
    cases k with
    | zero =>
      simp only [List.getElem?_cons_zero, Option.some.injEq] at hk
      subst hk
      refine h.1 ?_
      rw [← Int32.toInt_inj, c32_toInt (by omega), hx]; simp
    | succ k =>
      have hne : ¬ x = c32 (i : Int) := by
        intro e
        have e2 := congrArg Int32.toInt e
        rw [c32_toInt (by omega), hx] at e2
        omega
      have h3 := h.2 hne
      refine ih (i + 1) k o (by omega) ?_ (by rw [hx]; congr 1; omega) (by simpa using hk)
      have e4 : ((i + 1 : Nat) : Int) = (i : Int) + 1 := by omega
      rw [e4]; exact h3
theorem tsw_out {pc : Nat} {x : Int32} {jd : Prop} {jm : Nat → Prop} : ∀ (l : List Int) (i : Nat), i + l.length < 100 → tsw pc x jd jm l (i : Int) → (x.toInt < (i : Int) ∨ ((i + l.length : Nat) : Int) ≤ x.toInt) → jd := by
  intro l
  induction l with
  | nil => intro i _ h _; exact h
  | cons a t ih =>
    intro i hi h hx
    simp only [List.length_cons] at hi hx
    have hne : ¬ x = c32 (i : Int) := by
      intro e
      have e2 := congrArg Int32.toInt e
      rw [c32_toInt (by omega)] at e2
      omega
    have h3 := h.2 hne
    refine ih (i + 1) (by omega) ?_ (by omega)
    have e4 : ((i + 1 : Nat) : Int) = (i : Int) + 1 := by omega
    rw [e4]; exact h3
theorem G_tsw {d mi pc : Nat} {lv : LV} {st : List Value} {r : Rr} {g : Gi} {j : Gl} {Q : QT} {df lo hi : Int} {offs : Array Int} {len : Nat} {x : Int32} (hd : decode (mB mi) pc = .ok (.tableswitch df lo hi offs, len)) (hok : insOk pc (.tableswitch df lo hi offs) len = true)
    (h : tsw pc x (G d mi ((pc : Int) + df).toNat lv st r g j Q) (fun z => G d mi z lv st r g j Q) offs.toList lo) : G d mi pc lv (.int x :: st) r g j Q := by
  simp only [insOk, Bool.and_eq_true, decide_eq_true_eq] at hok
  obtain ⟨rfl, h2, h3, h4, h5⟩ := hok
  intro p l e s m args below meth c D CA B sa sv H locs ls F hS hW hl
  by_cases hx : x.toInt < 0 ∨ hi < x.toInt
  · have hG := tsw_out offs.toList 0 (by simp; exact h4) h (by
      rcases hx with a | a
      · exact Or.inl a
      · right; simp; omega)
    exact lv_tableOut F.1 F.2.1 hd hx (by omega) (hG p l e s m args below meth c D CA B sa sv H locs ls F hS hW hl)
  · have hk : (x.toInt - 0).toNat < offs.size := by omega
    have ho : offs[(x.toInt - 0).toNat]? = some offs[(x.toInt - 0).toNat] := Array.getElem?_eq_getElem hk
    have hG := tsw_in offs.toList 0 (x.toInt - 0).toNat offs[(x.toInt - 0).toNat] (by simp; exact h4) h (by omega) (by rw [Array.getElem?_toList]; exact ho)
    have hp := List.all_eq_true.mp h5 _ (show offs[(x.toInt - 0).toNat] ∈ offs.toList from by simp)
    simp only [decide_eq_true_eq] at hp
    exact lv_tableIn F.1 F.2.1 hd (fun a => hx (Or.inl a)) (fun a => hx (Or.inr a)) ho (by omega) (hG p l e s m args below meth c D CA B sa sv H locs ls F hS hW hl)
theorem G_copy {d mi pc : Nat} {lv : LV} {st : List Value} {r : Rr} {g : Gi} {j : Gl} {Q : QT} {ix mk nn a b n0 n1 n2 sp2 dp2 : Nat} {pl : List Nat} {n sp dp : Int32} (hd : decode (mB mi) pc = .ok (.invokestatic ix, 3)) (hq : lk2 (mlT (mO mi)) ix = some (4, mk, nn, pl)) (hst : (st.map fun v => v.category).sum ≤ 8) (ha : SH a = some (.inr (0, n0))) (hb : SH b = some (.inr (0, n1))) (e1 : n = nI n2) (e2 : sp = nI sp2) (e3 : dp = nI dp2) (e4 : sp2 + n2 ≤ n0) (e5 : dp2 + n2 ≤ n1)
    (h : G (d + 1) mi (pc + 3) lv st r (cpI g a b sp2 dp2 n2) j Q) : G (d + 1) mi pc lv (.int n :: .int dp :: .ref b :: .int sp :: .ref a :: st) r g j Q := G_copyJ hd hq hst ha hb e1 e2 e3 e4 e5 h
