/-! THE ABSTRACT MACHINE, third part: fields, arrays, calls, returns -/
def lyL : List (List Nat) := [[1107, 1109, 1111, 1113, 1115, 1117], [2141], [2122, 2124, 2126, 2128, 2130], [2086, 2088, 2090, 2092, 2094, 2096, 2098, 2100, 2102, 2104], [1166, 1168, 1170, 1172, 1174, 1176, 1178, 1180, 1182, 1184, 1186, 1188], [1217, 1219, 1221, 1223, 1225, 1227, 1229, 1231, 1233, 1235, 1237, 1239, 2001, 2003, 2005, 2007, 2009, 2011], [1062, 1064, 1066, 1068, 1070], [2156, 2158, 2160, 2162], [2042, 2044, 2046, 2048, 2050, 2052, 2054, 2056, 2058, 2060, 2062], [2182, 2184, 2186, 2188, 2190, 2192, 2194, 2196, 2198, 2200, 2202, 2204, 2206, 2208, 2210, 2212, 2214], [5220, 5222, 5224, 5226, 5228, 5230, 5232, 5234, 5236, 5238, 6000, 6002, 6004, 6006, 6008, 6010, 6012, 6014, 6016, 6018, 6020, 6022, 6024, 6026, 6028, 6030, 6032, 6034, 6036, 6038, 6040, 6042, 6044, 6046, 6048, 6050]]
def lyOk (ci : Nat) : Bool := (List.range (nf ci)).all (fun k => wordOf ((((lyL[ci]?).getD [])[k]?).getD 0) (u_lay (Rn ci) (Tn ci) k))
set_option maxRecDepth 100000 in
theorem ly_ok0 : (List.range 11).all lyOk = true := by decide +kernel
theorem ly_in {ci : Nat} (h : ci < 11) {mi : Nat} : ∀ w ∈ u_ws (Rn ci) (Tn ci) (nf ci), w ∈ TS mi := by
  intro w hw
  obtain ⟨k, hk, rfl⟩ := List.mem_map.mp hw
  exact in_TS (List.all_eq_true.mp (List.all_eq_true.mp ly_ok0 ci (List.mem_range.mpr h)) k hk)
set_option maxRecDepth 100000 in
theorem ty_ok0 : (List.range 11).all (fun ci => (List.range (nf ci)).all (fun k => decide (parseFieldDescriptor (Tn ci k).2.2.1 = some (tyn ci k)))) = true := by decide +kernel
theorem ty_ok {ci k : Nat} (h : ci < 11) (hk : k < nf ci) : parseFieldDescriptor (Tn ci k).2.2.1 = some (tyn ci k) := by
  have := List.all_eq_true.mp (List.all_eq_true.mp ty_ok0 ci (List.mem_range.mpr h)) k (List.mem_range.mpr hk)
  simpa using this
set_option maxRecDepth 100000 in
theorem nm_ok0 : (List.range 11).all (fun ci => (List.range (nf ci)).all (fun a => (List.range (nf ci)).all (fun b => decide (a = b) || decide ((Tn ci a).2.1 ≠ (Tn ci b).2.1)))) = true := by decide +kernel
theorem nm_ok {ci : Nat} (h : ci < 11) : ∀ a, a < nf ci → ∀ b, b < nf ci → a ≠ b → (Tn ci a).2.1 ≠ (Tn ci b).2.1 := by
  intro a ha b hb hab
  have := List.all_eq_true.mp (List.all_eq_true.mp (List.all_eq_true.mp nm_ok0 ci (List.mem_range.mpr h)) a (List.mem_range.mpr ha)) b (List.mem_range.mpr hb)
  simpa [hab] using this
theorem fl_ok {oc ix ci k i : Nat} (h : lk2 (flT oc) ix = some (ci, k, i)) : wordOf i (.fieldLink (Rn oc) ix (Tn ci k).1 (Tn ci k).2.1 (Tn ci k).2.2.1) = true ∧ k < nf ci ∧ ci < 11 := by
  have h1 := List.all_eq_true.mp (flT_ok oc) _ (lk2_mem h)
  simp only [flOk, Bool.and_eq_true] at h1
  exact ⟨h1.1, Nat.le_of_ble_eq_true h1.2.1, Nat.le_of_ble_eq_true h1.2.2⟩
/-- 0 a number, 1 a long, 2 a reference -/
def fk (t : FieldType) : Nat := match t with
  | .long => 1
  | .object _ => 2
  | .array _ => 2
  | _ => 0
theorem fv_0 {B : Nat} {t : FieldType} {q : Option Nat} {x : Int32} {y : Int64} (h : fk t = 0) : fv B t q x y = .int x := by cases t <;> simp [fk] at h <;> rfl
theorem fv_1 {B : Nat} {t : FieldType} {q : Option Nat} {x : Int32} {y : Int64} (h : fk t = 1) : fv B t q x y = .long y := by cases t <;> simp [fk] at h <;> rfl
theorem fv_2 {B : Nat} {t : FieldType} {q : Option Nat} {x : Int32} {y : Int64} (h : fk t = 2) : fv B t q x y = va_rf (q.map (fun a => B + a)) := by cases t <;> simp [fk] at h <;> rfl
def uI (g : Gi) (a k : Nat) (v : Int32) : Gi := fun a' => bif Nat.beq a' a then (fun k' => bif Nat.beq k' k then v else g a k') else g a'
def uJ (g : Gl) (a k : Nat) (v : Int64) : Gl := fun a' => bif Nat.beq a' a then (fun k' => bif Nat.beq k' k then v else g a k') else g a'
def uR (g : Rr) (a k : Nat) (v : Option Nat) : Rr := fun a' => bif Nat.beq a' a then (fun k' => bif Nat.beq k' k then v else g a k') else g a'
theorem beq_ne {a b : Nat} (h : a ≠ b) : Nat.beq a b = false := by
  cases hb : Nat.beq a b with
  | false => rfl
  | true => exact absurd (Nat.eq_of_beq_eq_true hb) h
theorem beq_same (a : Nat) : Nat.beq a a = true := Nat.beq_refl a
theorem uI_o {g : Gi} {a k : Nat} {v : Int32} {a' : Nat} (h : a' ≠ a) : uI g a k v a' = g a' := by unfold uI; rw [beq_ne h]; rfl
theorem uJ_o {g : Gl} {a k : Nat} {v : Int64} {a' : Nat} (h : a' ≠ a) : uJ g a k v a' = g a' := by unfold uJ; rw [beq_ne h]; rfl
theorem uR_o {g : Rr} {a k : Nat} {v : Option Nat} {a' : Nat} (h : a' ≠ a) : uR g a k v a' = g a' := by unfold uR; rw [beq_ne h]; rfl
theorem uI_s {g : Gi} {a k : Nat} {v : Int32} : uI g a k v a k = v := by unfold uI; rw [beq_same]; show cond _ _ _ = _; rw [beq_same]; rfl
theorem uJ_s {g : Gl} {a k : Nat} {v : Int64} : uJ g a k v a k = v := by unfold uJ; rw [beq_same]; show cond _ _ _ = _; rw [beq_same]; rfl
theorem uR_s {g : Rr} {a k : Nat} {v : Option Nat} : uR g a k v a k = v := by unfold uR; rw [beq_same]; show cond _ _ _ = _; rw [beq_same]; rfl
theorem uI_n {g : Gi} {a k : Nat} {v : Int32} {k' : Nat} (h : k' ≠ k) : uI g a k v a k' = g a k' := by unfold uI; rw [beq_same]; show cond _ _ _ = _; rw [beq_ne h]; rfl
theorem uJ_n {g : Gl} {a k : Nat} {v : Int64} {k' : Nat} (h : k' ≠ k) : uJ g a k v a k' = g a k' := by unfold uJ; rw [beq_same]; show cond _ _ _ = _; rw [beq_ne h]; rfl
theorem uR_n {g : Rr} {a k : Nat} {v : Option Nat} {k' : Nat} (h : k' ≠ k) : uR g a k v a k' = g a k' := by unfold uR; rw [beq_same]; show cond _ _ _ = _; rw [beq_ne h]; rfl
/-- the world behind a change of one object -/
theorem Wd.setO {D : va_G} {CA : Nat → ClassId} {B : Nat} {r r' : Rr} {g g' : Gi} {j j' : Gl} {H H' : Heap} {a ci : Nat} (hW : Wd D CA B r g j H) (ha : SH a = some (.inl ci)) (ho : ∀ q, q ≠ B + a → H'[q]? = H[q]?) (hr : ∀ b, b ≠ a → r' b = r b) (hg : ∀ b, b ≠ a → g' b = g b) (hj : ∀ b, b ≠ a → j' b = j b)
    (hn : t_OB (B + a) (D.1 ci) (nf ci) (D.2 ci) H' (fun k => fv B (tyn ci k) (r' a k) (g' a k) (j' a k))) (hs : ∀ k b, RS a k = some b → r' a k = some b) : Wd D CA B r' g' j' H' := by
  refine ⟨fun b c hb => ?_, fun b t n hb => ?_, fun b k z hb => ?_⟩
  · by_cases e : b = a
    · subst e
      have : c = ci := by rw [ha] at hb; injection hb with h1; injection h1 with h2; exact h2.symm
      subst this
      exact hn
    · rw [hr b e, hg b e, hj b e]
      exact (hW.1 b c hb).kept (ho _ (by omega))
  · have e : b ≠ a := fun e => by subst e; rw [ha] at hb; injection hb with h1; cases h1
    rw [hr b e, hg b e, hj b e, ho _ (by omega)]
    exact hW.2.1 b t n hb
  · by_cases e : b = a
    · subst e; exact hs k z hb
    · rw [hr b e]; exact hW.2.2 b k z hb
/-- the world behind a change of one array -/
theorem Wd.setA {D : va_G} {CA : Nat → ClassId} {B : Nat} {r r' : Rr} {g g' : Gi} {j j' : Gl} {H H' : Heap} {a t n : Nat} (hW : Wd D CA B r g j H) (ha : SH a = some (.inr (t, n))) (ho : ∀ q, q ≠ B + a → H'[q]? = H[q]?) (hr : ∀ b, b ≠ a → r' b = r b) (hg : ∀ b, b ≠ a → g' b = g b) (hj : ∀ b, b ≠ a → j' b = j b)
    (hn : H'[B + a]? = some (arrV (CA t) n (fun i => fv B (aT t) (r' a i) (g' a i) (j' a i)))) (hs : ∀ k b, RS a k = some b → r' a k = some b) : Wd D CA B r' g' j' H' := by
  refine ⟨fun b c hb => ?_, fun b t2 n2 hb => ?_, fun b k z hb => ?_⟩
  · have e : b ≠ a := fun e => by subst e; rw [ha] at hb; injection hb with h1; cases h1
    rw [hr b e, hg b e, hj b e]
    exact (hW.1 b c hb).kept (ho _ (by omega))
  · by_cases e : b = a
    · subst e
      rw [ha] at hb
      injection hb with h1
      injection h1 with h2
      injection h2 with h3 h4
      subst h3; subst h4
      exact hn
    · rw [hr b e, hg b e, hj b e, ho _ (by omega)]
      exact hW.2.1 b t2 n2 hb
  · by_cases e : b = a
    · subst e; exact hs k z hb
    · rw [hr b e]; exact hW.2.2 b k z hb
theorem G_get {d mi pc : Nat} {lv : LV} {st : List Value} {r : Rr} {g : Gi} {j : Gl} {Q : QT} {ix ci k i a : Nat} {v : Value} (hd : decode (mB mi) pc = .ok (.getfield ix, 3)) (hq : lk2 (flT (mO mi)) ix = some (ci, k, i)) (ha : SH a = some (.inl ci)) (hv : ∀ B sa, tr B sa v = fv B (tyn ci k) (r a k) (g a k) (j a k)) (h : G d mi (pc + 3) lv (v :: st) r g j Q) : G d mi pc lv (.ref a :: st) r g j Q := by
  intro p l e s m args below meth c D CA B sa sv H locs ls F hS hW hl
  obtain ⟨f1, f2, f3⟩ := fl_ok hq
  obtain ⟨cell, q1, q2, q3, q4⟩ := hW.1 a ci ha
  obtain ⟨hSl, hfc, kC, hkC, hkind⟩ := F.2.2.2.2.2.2.2.1 ci f3
  obtain ⟨cf, kf, fi, f, hi, hsl⟩ := hSl k f2
  refine W.getf F.1 F.2.1 F.2.2.2.2.1 (F.2.2.2.2.2.1 _ (in_TS f1)) hi (u_facts hfc hkC (u_lays F.2.2.2.2.2.1 (ly_in f3) f2) hi).1 q1 (by rw [q3]; exact fun h => by cases h) (v := tr B sa v) ?_ rfl rfl hd (h p l e s m args below meth c D CA B sa sv H locs ls F hS hW hl)
  rw [hsl, q4 k f2, hv B sa]
theorem G_getI {d mi pc : Nat} {lv : LV} {st : List Value} {r : Rr} {g : Gi} {j : Gl} {Q : QT} {ix ci k i a : Nat} (hd : decode (mB mi) pc = .ok (.getfield ix, 3)) (hq : lk2 (flT (mO mi)) ix = some (ci, k, i)) (ha : SH a = some (.inl ci)) (ht : fk (tyn ci k) = 0) (h : G d mi (pc + 3) lv (.int (g a k) :: st) r g j Q) : G d mi pc lv (.ref a :: st) r g j Q := G_get (v := .int (g a k)) hd hq ha (fun _ _ => (fv_0 ht).symm) h
theorem G_getJ {d mi pc : Nat} {lv : LV} {st : List Value} {r : Rr} {g : Gi} {j : Gl} {Q : QT} {ix ci k i a : Nat} (hd : decode (mB mi) pc = .ok (.getfield ix, 3)) (hq : lk2 (flT (mO mi)) ix = some (ci, k, i)) (ha : SH a = some (.inl ci)) (ht : fk (tyn ci k) = 1) (h : G d mi (pc + 3) lv (.long (j a k) :: st) r g j Q) : G d mi pc lv (.ref a :: st) r g j Q := G_get (v := .long (j a k)) hd hq ha (fun _ _ => (fv_1 ht).symm) h
theorem G_getR {d mi pc : Nat} {lv : LV} {st : List Value} {r : Rr} {g : Gi} {j : Gl} {Q : QT} {ix ci k i a b : Nat} (hd : decode (mB mi) pc = .ok (.getfield ix, 3)) (hq : lk2 (flT (mO mi)) ix = some (ci, k, i)) (ha : SH a = some (.inl ci)) (ht : fk (tyn ci k) = 2) (hb : r a k = some b) (h : G d mi (pc + 3) lv (.ref b :: st) r g j Q) : G d mi pc lv (.ref a :: st) r g j Q := G_get hd hq ha (fun B sa => by rw [fv_2 ht, hb]; rfl) h
/-- a fixed reference of the world -/
theorem G_rs {d mi pc : Nat} {lv : LV} {st : List Value} {r : Rr} {g : Gi} {j : Gl} {Q : QT} {a k b : Nat} (hb : RS a k = some b) (h : r a k = some b → G d mi pc lv st r g j Q) : G d mi pc lv st r g j Q := by
  intro p l e s m args below meth c D CA B sa sv H locs ls F hS hW hl
  exact h (hW.2.2 a k b hb) p l e s m args below meth c D CA B sa sv H locs ls F hS hW hl
theorem G_put {d mi pc : Nat} {lv : LV} {st : List Value} {r : Rr} {g : Gi} {j : Gl} {Q : QT} {r' : Rr} {g' : Gi} {j' : Gl} {ix ci k i a : Nat} {v : Value} (hd : decode (mB mi) pc = .ok (.putfield ix, 3)) (hq : lk2 (flT (mO mi)) ix = some (ci, k, i)) (ha : SH a = some (.inl ci)) (hfin : (Tn ci k).2.2.2 = false) (hv : ∀ B sa, narrow (tyn ci k) (tr B sa v) = tr B sa v ∧ fits (tyn ci k) (tr B sa v) = true)
    (hr : ∀ b, b ≠ a → r' b = r b) (hg : ∀ b, b ≠ a → g' b = g b) (hj : ∀ b, b ≠ a → j' b = j b) (hnew : ∀ B sa, fv B (tyn ci k) (r' a k) (g' a k) (j' a k) = tr B sa v) (hold : ∀ B z, z ≠ k → fv B (tyn ci z) (r' a z) (g' a z) (j' a z) = fv B (tyn ci z) (r a z) (g a z) (j a z)) (hs : ∀ z b, RS a z = some b → r a z = some b → r' a z = some b)
    (h : G d mi (pc + 3) lv st r' g' j' Q) : G d mi pc lv (v :: .ref a :: st) r g j Q := by
  intro p l e s m args below meth c D CA B sa sv H locs ls F hS hW hl
  obtain ⟨f1, f2, f3⟩ := fl_ok hq
  obtain ⟨cell, q1, q2, q3, q4⟩ := hW.1 a ci ha
  obtain ⟨hSl, hfc, kC, hkC, hkind⟩ := F.2.2.2.2.2.2.2.1 ci f3
  obtain ⟨cf, kf, fi, f, hi, hsl⟩ := hSl k f2
  have hts := F.2.2.2.2.2.1
  have hap : ∀ x y, x < nf ci → y < nf ci → x ≠ y → (D.2 ci) x ≠ (D.2 ci) y := by
    intro x y hx hy hne
    obtain ⟨_, _, _, fa, hia, ea⟩ := hSl x hx
    obtain ⟨_, _, _, fb, hib, eb⟩ := hSl y hy
    rw [← ea, ← eb]
    refine u_apart (u_lays hts (ly_in f3) hx) (u_lays hts (ly_in f3) hy) hia hib ?_
    rw [(State.fieldFound?_type hia (ty_ok f3 hx)).1, (State.fieldFound?_type hib (ty_ok f3 hy)).1]
    exact nm_ok f3 x hx y hy hne
  have hlay := hts _ (ly_in f3 _ (u_in_lay f2))
  unfold u_lay at hlay
  rw [if_neg (by rw [hfin]; decide)] at hlay
  have hst := (u_facts hfc hkC (u_lays hts (ly_in f3) f2) hi).1
  have h6 := u_store hfc hkC hkind hlay hi (ty_ok f3 f2) (hv B sa).1 (hv B sa).2
  refine W.putK F.1 F.2.1 (f := f) ⟨F.2.2.2.2.1, hts _ (in_TS f1), ⟨_, _, _, hi⟩, hst⟩ (by rw [q2]; exact h6) q1 q3 (by rw [hsl]; exact k2_hasslot (q4 k f2)) rfl rfl hd fun H' e1 e2 e3 => ?_
  rw [hsl] at e1 ⊢
  have hn : t_OB (B + a) (D.1 ci) (nf ci) (D.2 ci) H' (fun k => fv B (tyn ci k) (r' a k) (g' a k) (j' a k)) := by
    refine t_OB.to (V := updV (fun k => fv B (tyn ci k) (r a k) (g a k) (j a k)) k (tr B sa v)) ⟨_, e1, q2, q3, t_set q4 hap f2 (tr B sa v)⟩ (fun z hz => ?_)
    unfold updV
    by_cases e : z = k
    · subst e; rw [if_pos rfl, hnew B sa]
    · rw [if_neg e, hold B z e]
  exact h p l e s m args below meth c D CA B sa sv H' _ ls F (hS.put e2 e3 (Nat.le_add_right B a)) (hW.setO ha e3 hr hg hj hn (fun z b hb => hs z b hb (hW.2.2 a z b hb))) hl
theorem narI (t : FieldType) (x : Int32) (h : t = .int ∨ (t = .boolean ∧ (x = 0 ∨ x = 1))) : narrow t (.int x) = .int x ∧ fits t (.int x) = true := by
  rcases h with rfl | ⟨rfl, rfl | rfl⟩
  · exact ⟨rfl, rfl⟩
  · exact ⟨by decide +kernel, by decide +kernel⟩
  · exact ⟨by decide +kernel, by decide +kernel⟩
theorem G_putI {d mi pc : Nat} {lv : LV} {st : List Value} {r : Rr} {g : Gi} {j : Gl} {Q : QT} {ix ci k i a : Nat} {x : Int32} (hd : decode (mB mi) pc = .ok (.putfield ix, 3)) (hq : lk2 (flT (mO mi)) ix = some (ci, k, i)) (ha : SH a = some (.inl ci)) (hfin : (Tn ci k).2.2.2 = false) (ht : tyn ci k = .int ∨ (tyn ci k = .boolean ∧ (x = 0 ∨ x = 1))) (h : G d mi (pc + 3) lv st r (uI g a k x) j Q) : G d mi pc lv (.int x :: .ref a :: st) r g j Q := by
  have h0 : fk (tyn ci k) = 0 := by rcases ht with e | ⟨e, -⟩ <;> rw [e] <;> rfl
  refine G_put hd hq ha hfin (fun B sa => narI _ x ht) (fun _ _ => rfl) (fun b hb => uI_o hb) (fun _ _ => rfl) (fun B sa => ?_) (fun B z hz => ?_) (fun z b _ hb => hb) h
  · rw [fv_0 h0, uI_s]; rfl
  · rw [uI_n hz]
theorem G_putJ {d mi pc : Nat} {lv : LV} {st : List Value} {r : Rr} {g : Gi} {j : Gl} {Q : QT} {ix ci k i a : Nat} {x : Int64} (hd : decode (mB mi) pc = .ok (.putfield ix, 3)) (hq : lk2 (flT (mO mi)) ix = some (ci, k, i)) (ha : SH a = some (.inl ci)) (hfin : (Tn ci k).2.2.2 = false) (ht : tyn ci k = .long) (h : G d mi (pc + 3) lv st r g (uJ j a k x) Q) : G d mi pc lv (.long x :: .ref a :: st) r g j Q := by
  have h0 : fk (tyn ci k) = 1 := by rw [ht]; rfl
  refine G_put hd hq ha hfin (fun B sa => by rw [ht]; exact ⟨rfl, rfl⟩) (fun _ _ => rfl) (fun _ _ => rfl) (fun b hb => uJ_o hb) (fun B sa => ?_) (fun B z hz => ?_) (fun z b _ hb => hb) h
  · rw [fv_1 h0, uJ_s]; rfl
  · rw [uJ_n hz]
theorem G_putR {d mi pc : Nat} {lv : LV} {st : List Value} {r : Rr} {g : Gi} {j : Gl} {Q : QT} {ix ci k i a b : Nat} {C : String} (hd : decode (mB mi) pc = .ok (.putfield ix, 3)) (hq : lk2 (flT (mO mi)) ix = some (ci, k, i)) (ha : SH a = some (.inl ci)) (hfin : (Tn ci k).2.2.2 = false) (ht : tyn ci k = .object C) (hs : RS a k = none) (h : G d mi (pc + 3) lv st (uR r a k (some b)) g j Q) : G d mi pc lv (.ref b :: .ref a :: st) r g j Q := by
  have h0 : fk (tyn ci k) = 2 := by rw [ht]; rfl
  refine G_put hd hq ha hfin (fun B sa => by rw [ht]; exact ⟨rfl, rfl⟩) (fun b hb => uR_o hb) (fun _ _ => rfl) (fun _ _ => rfl) (fun B sa => ?_) (fun B z hz => ?_) (fun z b hz hb => ?_) h
  · rw [fv_2 h0, uR_s]; rfl
  · rw [uR_n hz]
  · have e : z ≠ k := fun e => by subst e; rw [hs] at hz; cases hz
    rw [uR_n e]; exact hb
set_option maxRecDepth 100000 in
theorem sh_ok0 : shLs.all (fun l => l.all (fun q => match q with | .inl ci => Nat.blt ci 11 | .inr (t, n) => Nat.blt t 8 && Nat.blt n 10000)) = true := by decide +kernel
theorem sh_ok {a t n : Nat} (h : SH a = some (.inr (t, n))) : t < 8 ∧ n < 2 ^ 31 := by
  unfold SH at h
  cases hc : shLs[a / 16]? with
  | none => rw [hc] at h; simp at h
  | some l =>
    rw [hc] at h
    have := List.all_eq_true.mp (List.all_eq_true.mp sh_ok0 l (List.mem_of_getElem? hc)) _ (List.mem_of_getElem? h)
    simp only [Bool.and_eq_true] at this
    have h1 : t < 8 := Nat.le_of_ble_eq_true this.1
    have h2 : n < 10000 := Nat.le_of_ble_eq_true this.2
    exact ⟨h1, by omega⟩
theorem G_iaload {d mi pc : Nat} {lv : LV} {st : List Value} {r : Rr} {g : Gi} {j : Gl} {Q : QT} {a n q : Nat} {i : Int32} (hd : decode (mB mi) pc = .ok (.iaload, 1)) (ha : SH a = some (.inr (0, n))) (hi : i = nI q) (hq : q < n) (h : G d mi (pc + 1) lv (.int (g a q) :: st) r g j Q) : G d mi pc lv (.int i :: .ref a :: st) r g j Q := by
  intro p l e s m args below meth c D CA B sa sv H locs ls F hS hW hl
  obtain ⟨h1, h2⟩ := sh_ok ha
  subst hi
  have hc := nI_clamp (show q < 2 ^ 31 by omega)
  refine W.iald (v := .int (g a q)) F.1 F.2.1 (hW.2.1 a _ n ha) ((F.2.2.2.2.2.2.2.2.1 _ h1).1 n _) (fun q => by cases q) (by rw [arrV_size]; exact vp_in_nI hq h2) (by rw [hc, arrV_read _ _ hq]; rfl) rfl rfl hd (h p l e s m args below meth c D CA B sa sv H locs ls F hS hW hl)
theorem G_baload {d mi pc : Nat} {lv : LV} {st : List Value} {r : Rr} {g : Gi} {j : Gl} {Q : QT} {a n q : Nat} {i : Int32} (hd : decode (mB mi) pc = .ok (.baload, 1)) (ha : SH a = some (.inr (1, n))) (hi : i = nI q) (hq : q < n) (h : G d mi (pc + 1) lv (.int (g a q) :: st) r g j Q) : G d mi pc lv (.int i :: .ref a :: st) r g j Q := by
  intro p l e s m args below meth c D CA B sa sv H locs ls F hS hW hl
  obtain ⟨h1, h2⟩ := sh_ok ha
  subst hi
  have hc := nI_clamp (show q < 2 ^ 31 by omega)
  refine W.bald (v := .int (g a q)) F.1 F.2.1 (hW.2.1 a _ n ha) ((F.2.2.2.2.2.2.2.2.1 _ h1).1 n _) (fun q => by cases q) (by rw [arrV_size]; exact vp_in_nI hq h2) (by rw [hc, arrV_read _ _ hq]; rfl) rfl rfl hd (h p l e s m args below meth c D CA B sa sv H locs ls F hS hW hl)
theorem G_zaload {d mi pc : Nat} {lv : LV} {st : List Value} {r : Rr} {g : Gi} {j : Gl} {Q : QT} {a n q : Nat} {i : Int32} (hd : decode (mB mi) pc = .ok (.baload, 1)) (ha : SH a = some (.inr (2, n))) (hi : i = nI q) (hq : q < n) (h : G d mi (pc + 1) lv (.int (g a q) :: st) r g j Q) : G d mi pc lv (.int i :: .ref a :: st) r g j Q := by
  intro p l e s m args below meth c D CA B sa sv H locs ls F hS hW hl
  obtain ⟨h1, h2⟩ := sh_ok ha
  subst hi
  have hc := nI_clamp (show q < 2 ^ 31 by omega)
  refine W.zald (v := .int (g a q)) F.1 F.2.1 (hW.2.1 a _ n ha) ((F.2.2.2.2.2.2.2.2.1 _ h1).1 n _) (fun q => by cases q) (by rw [arrV_size]; exact vp_in_nI hq h2) (by rw [hc, arrV_read _ _ hq]; rfl) rfl rfl hd (h p l e s m args below meth c D CA B sa sv H locs ls F hS hW hl)
theorem G_laload {d mi pc : Nat} {lv : LV} {st : List Value} {r : Rr} {g : Gi} {j : Gl} {Q : QT} {a n q : Nat} {i : Int32} (hd : decode (mB mi) pc = .ok (.laload, 1)) (ha : SH a = some (.inr (3, n))) (hi : i = nI q) (hq : q < n) (h : G d mi (pc + 1) lv (.long (j a q) :: st) r g j Q) : G d mi pc lv (.int i :: .ref a :: st) r g j Q := by
  intro p l e s m args below meth c D CA B sa sv H locs ls F hS hW hl
  obtain ⟨h1, h2⟩ := sh_ok ha
  subst hi
  have hc := nI_clamp (show q < 2 ^ 31 by omega)
  refine W.lald (v := .long (j a q)) F.1 F.2.1 (hW.2.1 a _ n ha) ((F.2.2.2.2.2.2.2.2.1 _ h1).1 n _) (fun q => by cases q) (by rw [arrV_size]; exact vp_in_nI hq h2) (by rw [hc, arrV_read _ _ hq]; rfl) rfl rfl hd (h p l e s m args below meth c D CA B sa sv H locs ls F hS hW hl)
theorem G_aaload {d mi pc : Nat} {lv : LV} {st : List Value} {r : Rr} {g : Gi} {j : Gl} {Q : QT} {a t n q b : Nat} {i : Int32} (hd : decode (mB mi) pc = .ok (.aaload, 1)) (ha : SH a = some (.inr (t, n))) (ht : fk (aT t) = 2) (hi : i = nI q) (hq : q < n) (hb : r a q = some b) (h : G d mi (pc + 1) lv (.ref b :: st) r g j Q) : G d mi pc lv (.int i :: .ref a :: st) r g j Q := by
  intro p l e s m args below meth c D CA B sa sv H locs ls F hS hW hl
  obtain ⟨h1, h2⟩ := sh_ok ha
  subst hi
  have hc := nI_clamp (show q < 2 ^ 31 by omega)
  refine W.aald (v := .ref (B + b)) (ty := aT t) F.1 F.2.1 (hW.2.1 a _ n ha) ((F.2.2.2.2.2.2.2.2.1 _ h1).1 n _) (by cases hz : aT t <;> rw [hz] at ht <;> simp [fk] at ht <;> rfl) (fun q => by cases q) (by rw [arrV_size]; exact vp_in_nI hq h2) (by rw [hc, arrV_read _ _ hq, fv_2 ht, hb]; rfl) rfl rfl hd (h p l e s m args below meth c D CA B sa sv H locs ls F hS hW hl)
theorem G_iastore {d mi pc : Nat} {lv : LV} {st : List Value} {r : Rr} {g : Gi} {j : Gl} {Q : QT} {a n q : Nat} {i : Int32} {x : Int32} (hd : decode (mB mi) pc = .ok (.iastore, 1)) (ha : SH a = some (.inr (0, n))) (hi : i = nI q) (hq : q < n) (h : G d mi (pc + 1) lv st r (uI g a q x) j Q) : G d mi pc lv (.int x :: .int i :: .ref a :: st) r g j Q := by
  intro p l e s m args below meth c D CA B sa sv H locs ls F hS hW hl
  obtain ⟨h1, h2⟩ := sh_ok ha
  subst hi
  have hc := nI_clamp (show q < 2 ^ 31 by omega)
  refine W.iast F.1 F.2.1 (hW.2.1 a _ n ha) ((F.2.2.2.2.2.2.2.2.1 _ h1).1 n _) (fun q => by cases q) (by rw [arrV_size]; exact vp_in_nI hq h2) rfl rfl hd fun H' e1 e2 e3 => ?_
  have hn : H'[B + a]? = some (arrV (CA 0) n (fun i => fv B (aT 0) (r a i) ((uI g a q x) a i) (j a i))) := by
    rw [e1, hc, arrV_store]
    congr 2
    funext z
    unfold updV
    by_cases e : z = q
    · subst e; rw [if_pos rfl, uI_s]; rfl
    · rw [if_neg e, uI_n e]
  exact h p l e s m args below meth c D CA B sa sv H' _ ls F (hS.put e2 e3 (Nat.le_add_right B a)) (hW.setA ha e3 (fun _ _ => rfl) (fun b hb => uI_o hb) (fun b hb => rfl) hn (fun z b hb => hW.2.2 a z b hb)) hl
theorem G_lastore {d mi pc : Nat} {lv : LV} {st : List Value} {r : Rr} {g : Gi} {j : Gl} {Q : QT} {a n q : Nat} {i : Int32} {x : Int64} (hd : decode (mB mi) pc = .ok (.lastore, 1)) (ha : SH a = some (.inr (3, n))) (hi : i = nI q) (hq : q < n) (h : G d mi (pc + 1) lv st r g (uJ j a q x) Q) : G d mi pc lv (.long x :: .int i :: .ref a :: st) r g j Q := by
  intro p l e s m args below meth c D CA B sa sv H locs ls F hS hW hl
  obtain ⟨h1, h2⟩ := sh_ok ha
  subst hi
  have hc := nI_clamp (show q < 2 ^ 31 by omega)
  refine W.last F.1 F.2.1 (hW.2.1 a _ n ha) ((F.2.2.2.2.2.2.2.2.1 _ h1).1 n _) (fun q => by cases q) (by rw [arrV_size]; exact vp_in_nI hq h2) rfl rfl hd fun H' e1 e2 e3 => ?_
  have hn : H'[B + a]? = some (arrV (CA 3) n (fun i => fv B (aT 3) (r a i) (g a i) ((uJ j a q x) a i))) := by
    rw [e1, hc, arrV_store]
    congr 2
    funext z
    unfold updV
    by_cases e : z = q
    · subst e; rw [if_pos rfl, uJ_s]; rfl
    · rw [if_neg e, uJ_n e]
  exact h p l e s m args below meth c D CA B sa sv H' _ ls F (hS.put e2 e3 (Nat.le_add_right B a)) (hW.setA ha e3 (fun _ _ => rfl) (fun b hb => rfl) (fun b hb => uJ_o hb) hn (fun z b hb => hW.2.2 a z b hb)) hl
theorem G_bastore {d mi pc : Nat} {lv : LV} {st : List Value} {r : Rr} {g : Gi} {j : Gl} {Q : QT} {a n q : Nat} {i : Int32} {x : Int32} (hd : decode (mB mi) pc = .ok (.bastore, 1)) (ha : SH a = some (.inr (1, n))) (hi : i = nI q) (hq : q < n) (h : G d mi (pc + 1) lv st r (uI g a q x.toInt8.toInt32) j Q) : G d mi pc lv (.int x :: .int i :: .ref a :: st) r g j Q := by
  intro p l e s m args below meth c D CA B sa sv H locs ls F hS hW hl
  obtain ⟨h1, h2⟩ := sh_ok ha
  subst hi
  have hc := nI_clamp (show q < 2 ^ 31 by omega)
  refine W.bast F.1 F.2.1 (hW.2.1 a _ n ha) ((F.2.2.2.2.2.2.2.2.1 _ h1).1 n _) (fun q => by cases q) (by rw [arrV_size]; exact vp_in_nI hq h2) rfl rfl hd fun H' e1 e2 e3 => ?_
  have hn : H'[B + a]? = some (arrV (CA 1) n (fun i => fv B (aT 1) (r a i) ((uI g a q x.toInt8.toInt32) a i) (j a i))) := by
    rw [e1, hc, arrV_store]
    congr 2
    funext z
    unfold updV
    by_cases e : z = q
    · subst e; rw [if_pos rfl, uI_s]; rfl
    · rw [if_neg e, uI_n e]
  exact h p l e s m args below meth c D CA B sa sv H' _ ls F (hS.put e2 e3 (Nat.le_add_right B a)) (hW.setA ha e3 (fun _ _ => rfl) (fun b hb => uI_o hb) (fun b hb => rfl) hn (fun z b hb => hW.2.2 a z b hb)) hl
theorem G_zastore {d mi pc : Nat} {lv : LV} {st : List Value} {r : Rr} {g : Gi} {j : Gl} {Q : QT} {a n q : Nat} {i : Int32} {x : Int32} (hd : decode (mB mi) pc = .ok (.bastore, 1)) (ha : SH a = some (.inr (2, n))) (hi : i = nI q) (hq : q < n) (hx : x = 0 ∨ x = 1) (h : G d mi (pc + 1) lv st r (uI g a q x) j Q) : G d mi pc lv (.int x :: .int i :: .ref a :: st) r g j Q := by
  intro p l e s m args below meth c D CA B sa sv H locs ls F hS hW hl
  obtain ⟨h1, h2⟩ := sh_ok ha
  subst hi
  have hc := nI_clamp (show q < 2 ^ 31 by omega)
  refine W.zast F.1 F.2.1 (hW.2.1 a _ n ha) ((F.2.2.2.2.2.2.2.2.1 _ h1).1 n _) (fun q => by cases q) (by rw [arrV_size]; exact vp_in_nI hq h2) rfl rfl hd fun H' e1 e2 e3 => ?_
  have hn : H'[B + a]? = some (arrV (CA 2) n (fun i => fv B (aT 2) (r a i) ((uI g a q x) a i) (j a i))) := by
    rw [e1, hc, arrV_store]
    congr 2
    funext z
    unfold updV
    by_cases e : z = q
    · subst e; rw [if_pos rfl, uI_s]; rw [(narI .boolean x (Or.inr ⟨rfl, hx⟩)).1]; rfl
    · rw [if_neg e, uI_n e]
  exact h p l e s m args below meth c D CA B sa sv H' _ ls F (hS.put e2 e3 (Nat.le_add_right B a)) (hW.setA ha e3 (fun _ _ => rfl) (fun b hb => uI_o hb) (fun b hb => rfl) hn (fun z b hb => hW.2.2 a z b hb)) hl
theorem G_arrlen {d mi pc : Nat} {lv : LV} {st : List Value} {r : Rr} {g : Gi} {j : Gl} {Q : QT} {a t n : Nat} (hd : decode (mB mi) pc = .ok (.arraylength, 1)) (ha : SH a = some (.inr (t, n))) (h : G d mi (pc + 1) lv (.int (nI n) :: st) r g j Q) : G d mi pc lv (.ref a :: st) r g j Q := by
  intro p l e s m args below meth c D CA B sa sv H locs ls F hS hW hl
  obtain ⟨h1, h2⟩ := sh_ok ha
  exact W.alen F.1 F.2.1 (hW.2.1 a _ n ha) ((F.2.2.2.2.2.2.2.2.1 _ h1).1 n _) (by rw [arrV_size]; rfl) rfl rfl hd (h p l e s m args below meth c D CA B sa sv H locs ls F hS hW hl)
