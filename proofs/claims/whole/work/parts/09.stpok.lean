theorem rk_ok {rt : Option FieldType} {K : List Value → Rr → Gi → Gl → Prop} {X : Option Value → Rr → Gi → Gl → Prop} (h : ∀ (vs : List Value) r g j, K vs r g j → (∀ v : Option Value, v.toList = vs → X v r g j)) : ∀ v r g j, rk rt K v r g j → X v r g j := by
  intro v r g j hr
  unfold rk at hr
  split at hr
  · unfold rkV at hr
    split at hr
    · exact h _ r g j hr _ rfl
    · exact hr.elim
  · unfold rkJ at hr
    split at hr
    · exact h _ r g j hr _ rfl
    · exact hr.elim
  · unfold rkI at hr
    split at hr
    · exact h _ r g j hr _ rfl
    · exact hr.elim
theorem Cm_mono {d mi : Nat} {as : List Value} {r : Rr} {g : Gi} {j : Gl} {Q Q' : QT} (h : Cm d mi as r g j Q) (hQ : ∀ v r g j, Q v r g j → Q' v r g j) : Cm d mi as r g j Q' := by
  intro l D CA B sa sv
  intro p e ha hc hk s m args below hf happ hP hK
  obtain ⟨t, o, a1, a2, a3, ⟨⟨v, r', g', j', e1, hq, hw⟩, hF⟩, hL⟩ := h l D CA B sa sv p e ha hc hk s m args below hf happ hP hK
  exact ⟨t, o, a1, a2, a3, ⟨⟨v, r', g', j', e1, hQ _ _ _ _ hq, hw⟩, hF⟩, hL⟩
set_option maxHeartbeats 4000000 in
theorem stp_ok {d mi pc tgt : Nat} {ins : Instr} {lv : LV} {st : List Value} {r : Rr} {g : Gi} {j : Gl} {Q : QT} {nx : NX} {jm : Nat → NX} (hd : decode (mB mi) pc = .ok (ins, lenI ins tgt)) (hi : insOk pc ins tgt = true) (h : stp (mO mi) (mL mi) (mR mi) d pc ins tgt lv st r g j nx jm Q)
    (hn : ∀ lv st r g j, nx lv st r g j → G d mi (pc + lenI ins tgt) lv st r g j Q) (hj : ∀ t lv st r g j, jm t lv st r g j → G d mi t lv st r g j Q) : G d mi pc lv st r g j Q := by
  cases ins
  case iconst n =>
    simp only [insOk, decide_eq_true_eq] at hi
    exact G_iconst hd hi (hn _ _ _ _ _ h)
  case bipush n =>
    simp only [insOk, decide_eq_true_eq] at hi
    exact G_bipush hd hi (hn _ _ _ _ _ h)
  case sipush n =>
    simp only [insOk, decide_eq_true_eq] at hi
    exact G_sipush hd hi (hn _ _ _ _ _ h)
  case lconst n =>
    exact G_lconst hd (hn _ _ _ _ _ h)
  case ldc ix =>
    simp only [stp] at h
    split at h
    · rename_i q hq; exact G_ldc hd hq (hn _ _ _ _ _ h)
    · split at h
      · rename_i q hq; exact G_ldcS hd hq (hn _ _ _ _ _ h)
      · exact h.elim
  case ldc_w ix =>
    simp only [stp] at h
    split at h
    · rename_i q hq; exact G_ldc_w hd hq (hn _ _ _ _ _ h)
    · split at h
      · rename_i q hq; exact G_ldc_wS hd hq (hn _ _ _ _ _ h)
      · exact h.elim
  case ldc2_w ix =>
    simp only [stp] at h
    split at h
    · rename_i q hq; exact G_ldc2 hd hq (hn _ _ _ _ _ h)
    · exact h.elim
  case iload_n k =>
    simp only [stp] at h
    split at h
    · rename_i x hx; exact G_iload_n hd hx (hn _ _ _ _ _ h)
    · exact h.elim
  case iload k =>
    simp only [stp] at h
    split at h
    · rename_i x hx; exact G_iload hd hx (hn _ _ _ _ _ h)
    · exact h.elim
  case lload_n k =>
    simp only [stp] at h
    split at h
    · rename_i x hx; exact G_lload_n hd hx (hn _ _ _ _ _ h)
    · exact h.elim
  case lload k =>
    simp only [stp] at h
    split at h
    · rename_i x hx; exact G_lload hd hx (hn _ _ _ _ _ h)
    · exact h.elim
  case aload_n k =>
    simp only [stp] at h
    split at h
    · rename_i x hx; exact G_aload_n hd hx (hn _ _ _ _ _ h)
    · rename_i x hx; exact G_aload_nS hd hx (hn _ _ _ _ _ h)
    · exact h.elim
  case aload k =>
    simp only [stp] at h
    split at h
    · rename_i x hx; exact G_aload hd hx (hn _ _ _ _ _ h)
    · rename_i x hx; exact G_aloadS hd hx (hn _ _ _ _ _ h)
    · exact h.elim
  case istore_n k =>
    simp only [stp] at h
    split at h
    · obtain ⟨hb, h⟩ := bif_e h
      exact G_istore_n hd (blt_lt hb) (hn _ _ _ _ _ h)
    · exact h.elim
  case istore k =>
    simp only [stp] at h
    split at h
    · obtain ⟨hb, h⟩ := bif_e h
      exact G_istore hd (blt_lt hb) (hn _ _ _ _ _ h)
    · exact h.elim
  case lstore_n k =>
    simp only [stp] at h
    split at h
    · obtain ⟨hb, h⟩ := bif_e h
      exact G_lstore_n hd (blt_lt hb) (hn _ _ _ _ _ h)
    · exact h.elim
  case lstore k =>
    simp only [stp] at h
    split at h
    · obtain ⟨hb, h⟩ := bif_e h
      exact G_lstore hd (blt_lt hb) (hn _ _ _ _ _ h)
    · exact h.elim
  case astore_n k =>
    simp only [stp] at h
    split at h
    · obtain ⟨hb, h⟩ := bif_e h
      exact G_astore_n hd (blt_lt hb) (hn _ _ _ _ _ h)
    · exact h.elim
  case astore k =>
    simp only [stp] at h
    split at h
    · obtain ⟨hb, h⟩ := bif_e h
      exact G_astore hd (blt_lt hb) (hn _ _ _ _ _ h)
    · exact h.elim
  case iinc k n =>
    simp only [insOk, decide_eq_true_eq] at hi
    simp only [stp] at h
    split at h
    · rename_i x hx
      obtain ⟨hb, h⟩ := bif_e h
      exact G_iinc hd hx hi (blt_lt hb) (hn _ _ _ _ _ h)
    · exact h.elim
  case iadd =>
    simp only [stp] at h
    split at h
    · exact G_iadd hd (hn _ _ _ _ _ h)
    · exact h.elim
  case isub =>
    simp only [stp] at h
    split at h
    · exact G_isub hd (hn _ _ _ _ _ h)
    · exact h.elim
  case imul =>
    simp only [stp] at h
    split at h
    · exact G_imul hd (hn _ _ _ _ _ h)
    · exact h.elim
  case iand =>
    simp only [stp] at h
    split at h
    · exact G_iand hd (hn _ _ _ _ _ h)
    · exact h.elim
  case ior =>
    simp only [stp] at h
    split at h
    · exact G_ior hd (hn _ _ _ _ _ h)
    · exact h.elim
  case ishl =>
    simp only [stp] at h
    split at h
    · exact G_ishl hd (hn _ _ _ _ _ h)
    · exact h.elim
  case ishr =>
    simp only [stp] at h
    split at h
    · exact G_ishr hd (hn _ _ _ _ _ h)
    · exact h.elim
  case ineg =>
    simp only [stp] at h
    split at h
    · exact G_ineg hd (hn _ _ _ _ _ h)
    · exact h.elim
  case ladd =>
    simp only [stp] at h
    split at h
    · exact G_ladd hd (hn _ _ _ _ _ h)
    · exact h.elim
  case lmul =>
    simp only [stp] at h
    split at h
    · exact G_lmul hd (hn _ _ _ _ _ h)
    · exact h.elim
  case land =>
    simp only [stp] at h
    split at h
    · exact G_land hd (hn _ _ _ _ _ h)
    · exact h.elim
  case lor =>
    simp only [stp] at h
    split at h
    · exact G_lor hd (hn _ _ _ _ _ h)
    · exact h.elim
  case lxor =>
    simp only [stp] at h
    split at h
    · exact G_lxor hd (hn _ _ _ _ _ h)
    · exact h.elim
  case lshl =>
    simp only [stp] at h
    split at h
    · exact G_lshl hd (hn _ _ _ _ _ h)
    · exact h.elim
  case lshr =>
    simp only [stp] at h
    split at h
    · exact G_lshr hd (hn _ _ _ _ _ h)
    · exact h.elim
  case lcmp =>
    simp only [stp] at h
    split at h
    · exact G_lcmp hd (hn _ _ _ _ _ h)
    · exact h.elim
  case i2l =>
    simp only [stp] at h
    split at h
    · exact G_i2l hd (hn _ _ _ _ _ h)
    · exact h.elim
  case l2i =>
    simp only [stp] at h
    split at h
    · exact G_l2i hd (hn _ _ _ _ _ h)
    · exact h.elim
  case i2b =>
    simp only [stp] at h
    split at h
    · exact G_i2b hd (hn _ _ _ _ _ h)
    · exact h.elim
  case i2c =>
    simp only [stp] at h
    split at h
    · exact G_i2c hd (hn _ _ _ _ _ h)
    · exact h.elim
  case idiv =>
    simp only [stp] at h
    split at h
    · exact G_idiv hd h.1 (hn _ _ _ _ _ h.2)
    · exact h.elim
  case irem =>
    simp only [stp] at h
    split at h
    · exact G_irem hd h.1 (hn _ _ _ _ _ h.2)
    · exact h.elim
  case ldiv =>
    simp only [stp] at h
    split at h
    · exact G_ldiv hd h.1 (hn _ _ _ _ _ h.2)
    · exact h.elim
  case lrem =>
    simp only [stp] at h
    split at h
    · exact G_lrem hd h.1 (hn _ _ _ _ _ h.2)
    · exact h.elim
  case dup =>
    simp only [stp] at h
    split at h
    · obtain ⟨hb, h⟩ := bif_e h
      exact G_dup hd (Nat.eq_of_beq_eq_true hb) (hn _ _ _ _ _ h)
    · exact h.elim
  case pop =>
    simp only [stp] at h
    split at h
    · obtain ⟨hb, h⟩ := bif_e h
      exact G_pop hd (Nat.eq_of_beq_eq_true hb) (hn _ _ _ _ _ h)
    · exact h.elim
  case dup2 =>
    simp only [stp] at h
    split at h
    · rename_i u v t
      cases hb : (Nat.beq u.category 1 && Nat.beq v.category 1) with
      | true =>
        rw [hb] at h
        simp only [Bool.and_eq_true] at hb
        exact G_dup2 hd (Nat.eq_of_beq_eq_true hb.1) (Nat.eq_of_beq_eq_true hb.2) (hn _ _ _ _ _ h)
      | false =>
        rw [hb] at h
        obtain ⟨hb2, h⟩ := bif_e h
        exact G_dup2l hd (Nat.eq_of_beq_eq_true hb2) (hn _ _ _ _ _ h)
    · obtain ⟨hb2, h⟩ := bif_e h
      exact G_dup2l hd (Nat.eq_of_beq_eq_true hb2) (hn _ _ _ _ _ h)
    · exact h.elim
  case ifCond cc off =>
    simp only [insOk, decide_eq_true_eq] at hi
    simp only [stp] at h
    split at h
    · cases cc with
      | eq => exact G_if_eq hd hi (fun x => hj _ _ _ _ _ _ (h.1 x)) (fun x => hn _ _ _ _ _ (h.2 x))
      | ne => exact G_if_ne hd hi (fun x => hn _ _ _ _ _ (h.1 x)) (fun x => hj _ _ _ _ _ _ (h.2 x))
      | lt => exact G_if_lt hd hi (fun x => hj _ _ _ _ _ _ (h.1 x)) (fun x => hn _ _ _ _ _ (h.2 x))
      | ge => exact G_if_ge hd hi (fun x => hj _ _ _ _ _ _ (h.1 x)) (fun x => hn _ _ _ _ _ (h.2 x))
      | gt => exact G_if_gt hd hi (fun x => hj _ _ _ _ _ _ (h.1 x)) (fun x => hn _ _ _ _ _ (h.2 x))
      | le => exact G_if_le hd hi (fun x => hj _ _ _ _ _ _ (h.1 x)) (fun x => hn _ _ _ _ _ (h.2 x))
    · exact h.elim
  case if_icmp cc off =>
    simp only [insOk, decide_eq_true_eq] at hi
    simp only [stp] at h
    split at h
    · cases cc with
      | eq => exact G_icmp_eq hd hi (fun x => hj _ _ _ _ _ _ (h.1 x)) (fun x => hn _ _ _ _ _ (h.2 x))
      | ne => exact G_icmp_ne hd hi (fun x => hn _ _ _ _ _ (h.1 x)) (fun x => hj _ _ _ _ _ _ (h.2 x))
      | lt => exact G_icmp_lt hd hi (fun x => hj _ _ _ _ _ _ (h.1 x)) (fun x => hn _ _ _ _ _ (h.2 x))
      | ge => exact G_icmp_ge hd hi (fun x => hj _ _ _ _ _ _ (h.1 x)) (fun x => hn _ _ _ _ _ (h.2 x))
      | gt => exact G_icmp_gt hd hi (fun x => hj _ _ _ _ _ _ (h.1 x)) (fun x => hn _ _ _ _ _ (h.2 x))
      | le => exact G_icmp_le hd hi (fun x => hj _ _ _ _ _ _ (h.1 x)) (fun x => hn _ _ _ _ _ (h.2 x))
    · exact h.elim
  case goto off =>
    simp only [insOk, decide_eq_true_eq] at hi
    exact G_goto hd hi (hj _ _ _ _ _ _ h)
  case getfield ix =>
    simp only [stp] at h
    split at h
    · rename_i ci k i hq
      split at h
      · obtain ⟨ha, h⟩ := OB_e h
        split at h
        · rename_i hk; exact G_getI hd hq ha hk (hn _ _ _ _ _ h)
        · rename_i hk; exact G_getJ hd hq ha hk (hn _ _ _ _ _ h)
        · rename_i hk
          refine G_fix (fun hfx => ?_)
          obtain ⟨b, hb, h⟩ := RF_e h (hfx _ _)
          exact G_getR hd hq ha hk hb (hn _ _ _ _ _ h)
        · exact h.elim
      · exact h.elim
    · exact h.elim
  case putfield ix =>
    simp only [stp] at h
    split at h
    · rename_i ci k i hq
      cases hf : (Tn ci k).2.2.2 with
      | true => rw [hf] at h; exact h.elim
      | false =>
        rw [hf] at h
        simp only [cond_false] at h
        split at h
        · obtain ⟨ha, h⟩ := OB_e h
          split at h
          · rename_i ht; exact G_putI hd hq ha hf (Or.inl ht) (hn _ _ _ _ _ h)
          · rename_i ht; exact G_putI hd hq ha hf (Or.inr ⟨ht, h.1⟩) (hn _ _ _ _ _ h.2)
          · exact h.elim
        · obtain ⟨ha, h⟩ := OB_e h
          split at h
          · rename_i ht; exact G_putJ hd hq ha hf ht (hn _ _ _ _ _ h)
          · exact h.elim
        · obtain ⟨ha, h⟩ := OB_e h
          split at h
          · rename_i ht; exact G_putR hd hq ha hf ht h.1 (hn _ _ _ _ _ h.2)
          · exact h.elim
        · exact h.elim
    · exact h.elim
  case iaload =>
    simp only [stp] at h
    split at h
    · obtain ⟨n, ha, q, e1, e2, h⟩ := AR_e h
      exact G_iaload hd ha e1 e2 (hn _ _ _ _ _ h)
    · exact h.elim
  case laload =>
    simp only [stp] at h
    split at h
    · obtain ⟨n, ha, q, e1, e2, h⟩ := AR_e h
      exact G_laload hd ha e1 e2 (hn _ _ _ _ _ h)
    · exact h.elim
  case iastore =>
    simp only [stp] at h
    split at h
    · obtain ⟨n, ha, q, e1, e2, h⟩ := AR_e h
      exact G_iastore hd ha e1 e2 (hn _ _ _ _ _ h)
    · exact h.elim
  case lastore =>
    simp only [stp] at h
    split at h
    · obtain ⟨n, ha, q, e1, e2, h⟩ := AR_e h
      exact G_lastore hd ha e1 e2 (hn _ _ _ _ _ h)
    · exact h.elim
  case baload =>
    simp only [stp] at h
    split at h
    · obtain ⟨t, n, ha, h⟩ := AY_e h
      split at h
      · obtain ⟨q, e1, e2, h⟩ := h; exact G_baload hd ha e1 e2 (hn _ _ _ _ _ h)
      · obtain ⟨q, e1, e2, h⟩ := h; exact G_zaload hd ha e1 e2 (hn _ _ _ _ _ h)
      · exact h.elim
    · exact h.elim
  case bastore =>
    simp only [stp] at h
    split at h
    · obtain ⟨t, n, ha, h⟩ := AY_e h
      split at h
      · obtain ⟨q, e1, e2, h⟩ := h; exact G_bastore hd ha e1 e2 (hn _ _ _ _ _ h)
      · obtain ⟨hx, q, e1, e2, h⟩ := h; exact G_zastore hd ha e1 e2 hx (hn _ _ _ _ _ h)
      · exact h.elim
    · exact h.elim
  case aaload =>
    simp only [stp] at h
    split at h
    · obtain ⟨t, n, ha, h⟩ := AY_e h
      obtain ⟨hb, q, e1, e2, h⟩ := bif_e h
      refine G_fix (fun hfx => ?_)
      obtain ⟨b, hb2, h⟩ := RF_e h (hfx _ _)
      exact G_aaload hd ha (Nat.eq_of_beq_eq_true hb) e1 e2 hb2 (hn _ _ _ _ _ h)
    · exact h.elim
  case aastore =>
    simp only [stp] at h
    split at h
    · obtain ⟨n, ha, h⟩ := AR_e h
      obtain ⟨hb, q, e1, e2, h3, h⟩ := OB_e h
      exact G_aastore (ci := 8) hd ha rfl (by decide) hb e1 e2 h3 (hn _ _ _ _ _ h)
    · exact h.elim
  case arraylength =>
    simp only [stp] at h
    split at h
    · obtain ⟨t, n, ha, h⟩ := AY_e h
      exact G_arrlen hd ha (hn _ _ _ _ _ h)
    · exact h.elim
  case tableswitch df lo hi2 offs =>
    simp only [stp] at h
    split at h
    · exact G_tsw hd hi (tsw_mono (fun x => hj _ _ _ _ _ _ x) (fun z x => hj _ _ _ _ _ _ x) _ _ h)
    · exact h.elim
  case invokevirtual ix =>
    cases d with
    | zero => exact h.elim
    | succ d =>
      simp only [stp] at h
      split at h
      · rename_i mq n pl hq
        split at h
        · rename_i as a t hk
          obtain ⟨bs, e1, e2, e3⟩ := tkA_ok _ _ _ _ _ hk
          rw [List.append_nil] at e1
          subst e1
          subst e2
          obtain ⟨hb, h⟩ := bif_e h
          obtain ⟨ha, h⟩ := OB_e h
          exact G_callV hd hq e3 ha (Nat.le_of_ble_eq_true hb) (Cm_mono h (rk_ok (fun vs r g j x v e => by rw [e]; exact hn _ _ _ _ _ x)))
        · exact h.elim
      · exact h.elim
  case invokestatic ix =>
    cases d with
    | zero => exact h.elim
    | succ d =>
      simp only [stp] at h
      split at h
      · rename_i mq n pl hq
        split at h
        · rename_i as t hk
          obtain ⟨bs, e1, e2, e3⟩ := tkA_ok _ _ _ _ _ hk
          rw [List.append_nil] at e1
          subst e1
          subst e2
          obtain ⟨hb, h⟩ := bif_e h
          exact G_callS hd hq e3 (Nat.le_of_ble_eq_true hb) (Cm_mono h (rk_ok (fun vs r g j x v e => by rw [e]; exact hn _ _ _ _ _ x)))
        · exact h.elim
      · rename_i hq
        split at h
        · obtain ⟨hb, h⟩ := bif_e h
          exact G_max hd hq (Nat.le_of_ble_eq_true hb) (hn _ _ _ _ _ h)
        · exact h.elim
      · rename_i hq
        split at h
        · obtain ⟨hb, h⟩ := bif_e h
          exact G_min hd hq (Nat.le_of_ble_eq_true hb) (hn _ _ _ _ _ h)
        · exact h.elim
      · rename_i hq
        split at h
        · obtain ⟨hb, h⟩ := bif_e h
          obtain ⟨n0, ha, h⟩ := AR_e h
          obtain ⟨n1, hb2, n2, sp2, dp2, e1, e2, e3, e4, e5, h⟩ := AR_e h
          exact G_copy hd hq (Nat.le_of_ble_eq_true hb) ha hb2 e1 e2 e3 e4 e5 (hn _ _ _ _ _ h)
        · exact h.elim
      · exact h.elim
  case ireturn =>
    simp only [stp] at h
    split at h
    · split at h
      · rename_i hr; exact G_iret hd hr h
      · rename_i hr; exact G_zret hd hr h.1 h.2
      · exact h.elim
    · exact h.elim
  case lreturn =>
    simp only [stp] at h
    split at h
    · split at h
      · rename_i hr; exact G_lret hd hr h
      · exact h.elim
    · exact h.elim
  case return_ =>
    simp only [stp] at h
    split at h
    · split at h
      · rename_i hr; exact G_vret hd hr h
      · exact h.elim
    · exact h.elim
  all_goals exact h.elim
abbrev CD : Type := List (Nat × Instr × Nat)
def kdOk (b : ByteArray) (cd : CD) : Bool := cd.all (fun q => decide (decode b q.1 = .ok (q.2.1, lenI q.2.1 q.2.2)) && insOk q.1 q.2.1 q.2.2)
def dropTo (cd : CD) (pc : Nat) : CD := match cd with
  | [] => []
  | q :: t => bif Nat.beq q.1 pc then q :: t else dropTo t pc
theorem dropTo_sub {cd : CD} {pc : Nat} : ∀ q ∈ dropTo cd pc, q ∈ cd := by
  induction cd with
  | nil => intro q h; exact h
  | cons a t ih =>
    intro q h
    unfold dropTo at h
    cases hb : Nat.beq a.1 pc with
    | true => rw [hb] at h; exact h
    | false => rw [hb] at h; exact List.mem_cons_of_mem _ (ih q h)
/-- what must be shown of the code from pc on, up to the stops (each with the locals that are kept there) and the returns -/
def blk (oc nl : Nat) (rt : Option FieldType) (d : Nat) (cd : CD) (sp : List (Nat × List Nat)) (K : Nat → NX) (Q : QT) : Nat → Bool → Nat → CD → LV → List Value → Rr → Gi → Gl → Prop
  | 0, _, _, _, _, _, _, _, _ => False
  | n + 1, fst, pc, rest, lv, st, r, g, j => match (bif fst then none else lk2 sp pc) with
    | some ks => match pick lv ks with
      | some l => K pc l st r g j
      | none => False
    | none => match rest with
      | [] => False
      | q :: t => bif Nat.beq q.1 pc then stp oc nl rt d pc q.2.1 q.2.2 lv st r g j (fun lv st r g j => blk oc nl rt d cd sp K Q n false (pc + lenI q.2.1 q.2.2) t lv st r g j) (fun z lv st r g j => blk oc nl rt d cd sp K Q n false z (dropTo cd z) lv st r g j) Q else False
theorem blk_ok {mi d : Nat} {cd : CD} {sp : List (Nat × List Nat)} {K : Nat → NX} {Q : QT} (hk : kdOk (mB mi) cd = true) (hK : ∀ pc lv st r g j, K pc lv st r g j → G d mi pc lv st r g j Q) :
    ∀ (n : Nat) (fst : Bool) (pc : Nat) (rest : CD) (lv : LV) (st : List Value) (r : Rr) (g : Gi) (j : Gl), (∀ q ∈ rest, q ∈ cd) → blk (mO mi) (mL mi) (mR mi) d cd sp K Q n fst pc rest lv st r g j → G d mi pc lv st r g j Q := by
  intro n
  induction n with
  | zero => intro fst pc rest lv st r g j _ h; exact h.elim
  | succ n ih =>
    intro fst pc rest lv st r g j hr h
    unfold blk at h
    split at h
    · split at h
      · rename_i l hl
        have h1 := hK _ _ _ _ _ _ h
        intro p l2 e s m args below meth c D CA B sa sv H locs ls F hS hW hls
        exact h1 p l2 e s m args below meth c D CA B sa sv H locs ls F hS hW (trl_sub hls (pick_sub hl))
      · exact h.elim
    · split at h
      · exact h.elim
      · rename_i q t
        obtain ⟨hb, h⟩ := bif_e h
        have hpc := Nat.eq_of_beq_eq_true hb
        subst hpc
        have hq := List.all_eq_true.mp hk q (hr q List.mem_cons_self)
        simp only [Bool.and_eq_true, decide_eq_true_eq] at hq
        exact stp_ok hq.1 hq.2 h (fun lv st r g j h => ih _ _ _ _ _ _ _ _ (fun z hz => hr z (List.mem_cons_of_mem _ hz)) h) (fun z lv st r g j h => ih _ _ _ _ _ _ _ _ dropTo_sub h)
/-- the use of it -/
theorem G_blk {mi d pc : Nat} {lv : LV} {st : List Value} {r : Rr} {g : Gi} {j : Gl} {Q : QT} (cd : CD) (sp : List (Nat × List Nat)) (n : Nat) (hk : kdOk (mB mi) cd = true) (h : blk (mO mi) (mL mi) (mR mi) d cd sp (fun pc lv st r g j => G d mi pc lv st r g j Q) Q n true pc (dropTo cd pc) lv st r g j) : G d mi pc lv st r g j Q :=
  blk_ok hk (fun _ _ _ _ _ _ h => h) n true pc _ lv st r g j dropTo_sub h
