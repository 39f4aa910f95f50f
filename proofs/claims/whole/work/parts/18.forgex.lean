/-! VOICEFORGE: what throws -/

set_option maxHeartbeats 4000000 in
set_option maxRecDepth 100000 in
theorem x_VF_sample_A (l : Launch) (hl0 : l.stackTraces = false) (D : va_G) (cF cI : ClassId) (sz : Nat) (h0 x0 g0 cd0 dd0 : Nat) (a : Nat) (lb : Int32) (v : UInt64) (hd : Op.cmpValue (FP.dcmp v 13898108450065350656) .l < 0 ∨ 0 < Op.cmpValue (FP.dcmp v 4674736138332667904) .g) : vx_Met l yVF_sample (.code yVF_sample cVF_sample 4 (some .int) :: TB) ({ frames := 6, cells := 1, slots := 6, locals := 90 }) (va_Pc [.ref h0, .double v] (cPreX D cF cI [(h0, .inr (5, [.ref x0, .int (nI a), .int lb, .ref g0, .ref cd0, .ref dd0]))] sz)) (va_Qi (fun _ (_ : Unit) => False) (fun _ _ => True) (va_A [(h0, .inr (5, [.ref x0, .int (nI a), .int lb, .ref g0, .ref cd0, .ref dd0]))] sz)) (vx_X (fun _ : Unit => True) (xB D cF cI (va_A [(h0, .inr (5, [.ref x0, .int (nI a), .int lb, .ref g0, .ref cd0, .ref dd0]))] sz) "java/lang/IllegalArgumentException" [(h0, .inr (5, [.ref x0, .int (nI a), .int lb, .ref g0, .ref cd0, .ref dd0]))]) (va_A [(h0, .inr (5, [.ref x0, .int (nI a), .int lb, .ref g0, .ref cd0, .ref dd0]))] sz)) 1 6 (va_A [(h0, .inr (5, [.ref x0, .int (nI a), .int lb, .ref g0, .ref cd0, .ref dd0]))] sz) := by
  refine x_ofW (own := RVF) (by decide) rfl (fun p e s m below meth c hsz hx hb hr hml hown ht hlk hin hP hK hD hmb hex hU hN hmx => ?_)
  subst hsz
  generalize hAe : va_A [(h0, .inr (5, [.ref x0, .int (nI a), .int lb, .ref g0, .ref cd0, .ref dd0]))] s.heap.size = A at hD hU hN ⊢
  have hA : ∀ q : Nat, s.heap.size ≤ q → A q := fun q h => by rw [← hAe]; exact Or.inr h
  have hS : va_S A s.heap s.heap [] := va_S.rf
  have hl := lv_entry ([.ref h0, .double v]) (n := 4) (Nat.le_of_ble_eq_true rfl)
  rw [lg_entry_eq]
  generalize (lg_sl ([.ref h0, .double v]) ++ List.replicate (4 - (lg_sl ([.ref h0, .double v])).length) Slot.unset).toArray = ls at hl ⊢
  have hl : lv_has ls 4 [(0, .ref h0), (1, .double v)] := hl
  refine lv_dload_n hx hb dVF_sample_0 rfl (lv_at hl 1 rfl) ?_
  refine lv_ldc2d (v := 13898108450065350656) hx hb hown (ht _ kk_VF_34) dVF_sample_1 ?_
  refine lv_dcmp hx hb dVF_sample_4 ?_
  refine lv_if_lt (tgt := 20) hx hb dVF_sample_5 (by decide) (fun c1 => ?_) (fun c1 => ?_)
  · refine lv_iconst (v := 0) hx hb dVF_sample_20 (by decide) ?_
    refine lv_istore_n (lv' := [(3, .int 0), (0, .ref h0), (1, .double v)]) hx hb dVF_sample_21 rfl hl (by decide) rfl (fun ls hl => ?_)
    refine lv_iload_n hx hb dVF_sample_22 rfl (lv_at hl 0 rfl) ?_
    refine lv_if_ne (tgt := 36) hx hb dVF_sample_23 (by decide) (fun c9 => absurd (by decide) c9) (fun _ => ?_)
    have hP := hP.sub (ws' := [(h0, .inr (5, [.ref x0, .int (nI a), .int lb, .ref g0, .ref cd0, .ref dd0]))]) [0] rfl
    have hD := hD.sub (ws' := [(h0, .inr (5, [.ref x0, .int (nI a), .int lb, .ref g0, .ref cd0, .ref dd0]))]) [0] (by decide) rfl
    exact e_x hl0 hx hb (hl.1.trans hml.symm) hown ht hlk hmb hmx hex hU hN hK hP hD hS (by decide +kernel) kl_VF_38 kI_IllegalArgumentException (List.mem_of_getElem? (i := 0) rfl) xa_42 dVF_sample_26 dVF_sample_29 dVF_sample_30 dVF_sample_32 dVF_sample_35 (Nat.le_of_ble_eq_true rfl) (Nat.le_of_ble_eq_true rfl) (Nat.le_of_ble_eq_true rfl) (Nat.le_of_ble_eq_true rfl)
  · refine lv_dload_n hx hb dVF_sample_8 rfl (lv_at hl 1 rfl) ?_
    refine lv_ldc2d (v := 4674736138332667904) hx hb hown (ht _ kk_VF_36) dVF_sample_9 ?_
    refine lv_dcmp hx hb dVF_sample_12 ?_
    refine lv_if_gt (tgt := 20) hx hb dVF_sample_13 (by decide) (fun c3 => ?_) (fun c3 => ?_)
    · refine lv_iconst (v := 0) hx hb dVF_sample_20 (by decide) ?_
      refine lv_istore_n (lv' := [(3, .int 0), (0, .ref h0), (1, .double v)]) hx hb dVF_sample_21 rfl hl (by decide) rfl (fun ls hl => ?_)
      refine lv_iload_n hx hb dVF_sample_22 rfl (lv_at hl 0 rfl) ?_
      refine lv_if_ne (tgt := 36) hx hb dVF_sample_23 (by decide) (fun c9 => absurd (by decide) c9) (fun _ => ?_)
      have hP := hP.sub (ws' := [(h0, .inr (5, [.ref x0, .int (nI a), .int lb, .ref g0, .ref cd0, .ref dd0]))]) [0] rfl
      have hD := hD.sub (ws' := [(h0, .inr (5, [.ref x0, .int (nI a), .int lb, .ref g0, .ref cd0, .ref dd0]))]) [0] (by decide) rfl
      exact e_x hl0 hx hb (hl.1.trans hml.symm) hown ht hlk hmb hmx hex hU hN hK hP hD hS (by decide +kernel) kl_VF_38 kI_IllegalArgumentException (List.mem_of_getElem? (i := 0) rfl) xa_42 dVF_sample_26 dVF_sample_29 dVF_sample_30 dVF_sample_32 dVF_sample_35 (Nat.le_of_ble_eq_true rfl) (Nat.le_of_ble_eq_true rfl) (Nat.le_of_ble_eq_true rfl) (Nat.le_of_ble_eq_true rfl)
    · exact absurd hd (fun q => q.elim c1 c3)

set_option maxHeartbeats 4000000 in
set_option maxRecDepth 100000 in
theorem x_VF_sample_B (l : Launch) (hl0 : l.stackTraces = false) (D : va_G) (cF cI : ClassId) (sz : Nat) (h0 x0 g0 cd0 dd0 : Nat) (ni : Int32) (lb : Int32) (v : UInt64) (hd1 : ¬ Op.cmpValue (FP.dcmp v 13898108450065350656) .l < 0) (hd2 : ¬ 0 < Op.cmpValue (FP.dcmp v 4674736138332667904) .g) (ha : ¬ ni < 48) : vx_Met l yVF_sample (.code yVF_sample cVF_sample 4 (some .int) :: TB) ({ frames := 6, cells := 1, slots := 6, locals := 90 }) (va_Pc [.ref h0, .double v] (cPreX D cF cI [(h0, .inr (5, [.ref x0, .int ni, .int lb, .ref g0, .ref cd0, .ref dd0]))] sz)) (va_Qi (fun _ (_ : Unit) => False) (fun _ _ => True) (va_A [(h0, .inr (5, [.ref x0, .int ni, .int lb, .ref g0, .ref cd0, .ref dd0]))] sz)) (vx_X (fun _ : Unit => True) (xB D cF cI (va_A [(h0, .inr (5, [.ref x0, .int ni, .int lb, .ref g0, .ref cd0, .ref dd0]))] sz) "java/lang/IllegalStateException" [(h0, .inr (5, [.ref x0, .int ni, .int lb, .ref g0, .ref cd0, .ref dd0]))]) (va_A [(h0, .inr (5, [.ref x0, .int ni, .int lb, .ref g0, .ref cd0, .ref dd0]))] sz)) 1 6 (va_A [(h0, .inr (5, [.ref x0, .int ni, .int lb, .ref g0, .ref cd0, .ref dd0]))] sz) := by
  refine x_ofW (own := RVF) (by decide) rfl (fun p e s m below meth c hsz hx hb hr hml hown ht hlk hin hP hK hD hmb hex hU hN hmx => ?_)
  subst hsz
  generalize hAe : va_A [(h0, .inr (5, [.ref x0, .int ni, .int lb, .ref g0, .ref cd0, .ref dd0]))] s.heap.size = A at hD hU hN ⊢
  have hA : ∀ q : Nat, s.heap.size ≤ q → A q := fun q h => by rw [← hAe]; exact Or.inr h
  have hS : va_S A s.heap s.heap [] := va_S.rf
  have hl := lv_entry ([.ref h0, .double v]) (n := 4) (Nat.le_of_ble_eq_true rfl)
  rw [lg_entry_eq]
  generalize (lg_sl ([.ref h0, .double v]) ++ List.replicate (4 - (lg_sl ([.ref h0, .double v])).length) Slot.unset).toArray = ls at hl ⊢
  have hl : lv_has ls 4 [(0, .ref h0), (1, .double v)] := hl
  refine lv_dload_n hx hb dVF_sample_0 rfl (lv_at hl 1 rfl) ?_
  refine lv_ldc2d (v := 13898108450065350656) hx hb hown (ht _ kk_VF_34) dVF_sample_1 ?_
  refine lv_dcmp hx hb dVF_sample_4 ?_
  refine lv_if_lt (tgt := 20) hx hb dVF_sample_5 (by decide) (fun c1 => ?_) (fun c1 => ?_)
  · exact absurd c1 hd1
  · refine lv_dload_n hx hb dVF_sample_8 rfl (lv_at hl 1 rfl) ?_
    refine lv_ldc2d (v := 4674736138332667904) hx hb hown (ht _ kk_VF_36) dVF_sample_9 ?_
    refine lv_dcmp hx hb dVF_sample_12 ?_
    refine lv_if_gt (tgt := 20) hx hb dVF_sample_13 (by decide) (fun c2 => ?_) (fun c2 => ?_)
    · exact absurd c2 hd2
    · refine lv_iconst (v := 1) hx hb dVF_sample_16 (by decide) ?_
      refine lv_goto (tgt := 21) hx hb dVF_sample_17 (by decide) ?_
      refine lv_istore_n (lv' := [(3, .int 1), (0, .ref h0), (1, .double v)]) hx hb dVF_sample_21 rfl hl (by decide) rfl (fun ls hl => ?_)
      refine lv_iload_n hx hb dVF_sample_22 rfl (lv_at hl 0 rfl) ?_
      refine lv_if_ne (tgt := 36) hx hb dVF_sample_23 (by decide) (fun _ => ?_) (fun c9 => absurd c9 (by decide))
      refine lv_aload_n hx hb dVF_sample_36 rfl (lv_at hl 1 rfl) ?_
      refine va_get (D := D) (ci := 5) (v := .int ni) hx hb ht inVF hown hK hP 0 rfl rfl 1 (by decide) (ht _ kf_VF_45) (fun _ h9 => h9) rfl dVF_sample_37 ?_
      refine lv_bipush (v := 48) hx hb dVF_sample_40 (by decide) ?_
      refine lv_icmp_lt (tgt := 55) hx hb dVF_sample_42 (by decide) (fun c4 => ?_) (fun c4 => ?_)
      · exact absurd c4 ha
      · have hP := hP.sub (ws' := [(h0, .inr (5, [.ref x0, .int ni, .int lb, .ref g0, .ref cd0, .ref dd0]))]) [0] rfl
        have hD := hD.sub (ws' := [(h0, .inr (5, [.ref x0, .int ni, .int lb, .ref g0, .ref cd0, .ref dd0]))]) [0] (by decide) rfl
        exact e_x hl0 hx hb (hl.1.trans hml.symm) hown ht hlk hmb hmx hex hU hN hK hP hD hS (by decide +kernel) kl_VF_49 kI_IllegalStateException (List.mem_of_getElem? (i := 1) rfl) xa_53 dVF_sample_45 dVF_sample_48 dVF_sample_49 dVF_sample_51 dVF_sample_54 (Nat.le_of_ble_eq_true rfl) (Nat.le_of_ble_eq_true rfl) (Nat.le_of_ble_eq_true rfl) (Nat.le_of_ble_eq_true rfl)

set_option maxHeartbeats 4000000 in
set_option maxRecDepth 100000 in
theorem x_VF_encode_A (l : Launch) (hl0 : l.stackTraces = false) (D : va_G) (cF cI : ClassId) (sz : Nat) (h0 x0 g0 cd0 dd0 : Nat) (ni : Int32) (lb : Int32) (ha : ¬ 16 ≤ ni) : vx_Met l yVF_encode (.code yVF_encode cVF_encode 2 (some .int) :: TB) ({ frames := 6, cells := 1, slots := 6, locals := 90 }) (va_Pc [.ref h0] (cPreX D cF cI [(h0, .inr (5, [.ref x0, .int ni, .int lb, .ref g0, .ref cd0, .ref dd0]))] sz)) (va_Qi (fun _ (_ : Unit) => False) (fun _ _ => True) (va_A [(h0, .inr (5, [.ref x0, .int ni, .int lb, .ref g0, .ref cd0, .ref dd0]))] sz)) (vx_X (fun _ : Unit => True) (xB D cF cI (va_A [(h0, .inr (5, [.ref x0, .int ni, .int lb, .ref g0, .ref cd0, .ref dd0]))] sz) "java/lang/IllegalStateException" [(h0, .inr (5, [.ref x0, .int ni, .int lb, .ref g0, .ref cd0, .ref dd0]))]) (va_A [(h0, .inr (5, [.ref x0, .int ni, .int lb, .ref g0, .ref cd0, .ref dd0]))] sz)) 1 6 (va_A [(h0, .inr (5, [.ref x0, .int ni, .int lb, .ref g0, .ref cd0, .ref dd0]))] sz) := by
  refine x_ofW (own := RVF) (by decide) rfl (fun p e s m below meth c hsz hx hb hr hml hown ht hlk hin hP hK hD hmb hex hU hN hmx => ?_)
  subst hsz
  generalize hAe : va_A [(h0, .inr (5, [.ref x0, .int ni, .int lb, .ref g0, .ref cd0, .ref dd0]))] s.heap.size = A at hD hU hN ⊢
  have hA : ∀ q : Nat, s.heap.size ≤ q → A q := fun q h => by rw [← hAe]; exact Or.inr h
  have hS : va_S A s.heap s.heap [] := va_S.rf
  have hl := lv_entry ([.ref h0]) (n := 2) (Nat.le_of_ble_eq_true rfl)
  rw [lg_entry_eq]
  generalize (lg_sl ([.ref h0]) ++ List.replicate (2 - (lg_sl ([.ref h0])).length) Slot.unset).toArray = ls at hl ⊢
  have hl : lv_has ls 2 [(0, .ref h0)] := hl
  refine lv_aload_n hx hb dVF_encode_0 rfl (lv_at hl 0 rfl) ?_
  refine va_get (D := D) (ci := 5) (v := .int ni) hx hb ht inVF hown hK hP 0 rfl rfl 1 (by decide) (ht _ kf_VF_45) (fun _ h9 => h9) rfl dVF_encode_1 ?_
  refine lv_bipush (v := 16) hx hb dVF_encode_4 (by decide) ?_
  refine lv_icmp_ge (tgt := 19) hx hb dVF_encode_6 (by decide) (fun c1 => ?_) (fun c1 => ?_)
  · exact absurd c1 ha
  · have hP := hP.sub (ws' := [(h0, .inr (5, [.ref x0, .int ni, .int lb, .ref g0, .ref cd0, .ref dd0]))]) [0] rfl
    have hD := hD.sub (ws' := [(h0, .inr (5, [.ref x0, .int ni, .int lb, .ref g0, .ref cd0, .ref dd0]))]) [0] (by decide) rfl
    exact e_x hl0 hx hb (hl.1.trans hml.symm) hown ht hlk hmb hmx hex hU hN hK hP hD hS (by decide +kernel) kl_VF_49 kI_IllegalStateException (List.mem_of_getElem? (i := 2) rfl) xa_53 dVF_encode_9 dVF_encode_12 dVF_encode_13 dVF_encode_15 dVF_encode_18 (Nat.le_of_ble_eq_true rfl) (Nat.le_of_ble_eq_true rfl) (Nat.le_of_ble_eq_true rfl) (Nat.le_of_ble_eq_true rfl)

set_option maxHeartbeats 4000000 in
set_option maxRecDepth 100000 in
theorem x_VF_encode_B (l : Launch) (hl0 : l.stackTraces = false) (D : va_G) (cF cI : ClassId) (sz : Nat) (h0 x0 g0 cd0 dd0 g1 v0 p0 k0 : Nat) (ni : Int32) (lb : Int32) (xx : Nat → UInt32) (rs : Int32) (rd : Int32) (np : Int32) (rr : Nat → UInt32) (ha : 16 ≤ ni) (hx9 : ∀ j, fk 143 (xx j)) (hz : ¬ m_size (f_ac xx 0 16) ≤ 120 - rs) : vx_Met l yVF_encode (.code yVF_encode cVF_encode 2 (some .int) :: TB) ({ frames := 6, cells := 1, slots := 6, locals := 90 }) (va_Pc [.ref h0] (cPreX D cF cI [(h0, .inr (5, [.ref x0, .int ni, .int lb, .ref g0, .ref cd0, .ref dd0])), (x0, .inl (cF, 48, .inr (.inr (.inl xx)))), (g0, .inr (0, [.ref g1, .int rs, .int rd])), (cd0, .inr (1, [.ref v0, .ref p0, .int np, .ref k0])), (k0, .inl (cF, 5, .inr (.inr (.inl rr))))] sz)) (va_Qi (fun _ (_ : Unit) => False) (fun _ _ => True) (va_A [(h0, .inr (5, [.ref x0, .int ni, .int lb, .ref g0, .ref cd0, .ref dd0])), (x0, .inl (cF, 48, .inr (.inr (.inl xx)))), (g0, .inr (0, [.ref g1, .int rs, .int rd])), (cd0, .inr (1, [.ref v0, .ref p0, .int np, .ref k0])), (k0, .inl (cF, 5, .inr (.inr (.inl rr))))] sz)) (vx_X (fun _ : Unit => True) (xB D cF cI (va_A [(h0, .inr (5, [.ref x0, .int ni, .int lb, .ref g0, .ref cd0, .ref dd0])), (x0, .inl (cF, 48, .inr (.inr (.inl xx)))), (g0, .inr (0, [.ref g1, .int rs, .int rd])), (cd0, .inr (1, [.ref v0, .ref p0, .int np, .ref k0])), (k0, .inl (cF, 5, .inr (.inr (.inl rr))))] sz) "java/lang/IndexOutOfBoundsException" [(h0, .inr (5, [.ref x0, .int ni, .int lb, .ref g0, .ref cd0, .ref dd0])), (x0, .inl (cF, 48, .inr (.inr (.inl xx)))), (g0, .inr (0, [.ref g1, .int rs, .int rd])), (cd0, .inr (1, [.ref v0, .ref p0, .int np, .ref k0])), (k0, .inl (cF, 5, .inr (.inr (.inl (f_like rr xx)))))]) (va_A [(h0, .inr (5, [.ref x0, .int ni, .int lb, .ref g0, .ref cd0, .ref dd0])), (x0, .inl (cF, 48, .inr (.inr (.inl xx)))), (g0, .inr (0, [.ref g1, .int rs, .int rd])), (cd0, .inr (1, [.ref v0, .ref p0, .int np, .ref k0])), (k0, .inl (cF, 5, .inr (.inr (.inl rr))))] sz)) 1 6 (va_A [(h0, .inr (5, [.ref x0, .int ni, .int lb, .ref g0, .ref cd0, .ref dd0])), (x0, .inl (cF, 48, .inr (.inr (.inl xx)))), (g0, .inr (0, [.ref g1, .int rs, .int rd])), (cd0, .inr (1, [.ref v0, .ref p0, .int np, .ref k0])), (k0, .inl (cF, 5, .inr (.inr (.inl rr))))] sz) := by
  refine x_ofW (own := RVF) (by decide) rfl (fun p e s m below meth c hsz hx hb hr hml hown ht hlk hin hP hK hD hmb hex hU hN hmx => ?_)
  subst hsz
  generalize hAe : va_A [(h0, .inr (5, [.ref x0, .int ni, .int lb, .ref g0, .ref cd0, .ref dd0])), (x0, .inl (cF, 48, .inr (.inr (.inl xx)))), (g0, .inr (0, [.ref g1, .int rs, .int rd])), (cd0, .inr (1, [.ref v0, .ref p0, .int np, .ref k0])), (k0, .inl (cF, 5, .inr (.inr (.inl rr))))] s.heap.size = A at hD hU hN ⊢
  have hA : ∀ q : Nat, s.heap.size ≤ q → A q := fun q h => by rw [← hAe]; exact Or.inr h
  have hS : va_S A s.heap s.heap [] := va_S.rf
  have hl := lv_entry ([.ref h0]) (n := 2) (Nat.le_of_ble_eq_true rfl)
  rw [lg_entry_eq]
  generalize (lg_sl ([.ref h0]) ++ List.replicate (2 - (lg_sl ([.ref h0])).length) Slot.unset).toArray = ls at hl ⊢
  have hl : lv_has ls 2 [(0, .ref h0)] := hl
  refine lv_aload_n hx hb dVF_encode_0 rfl (lv_at hl 0 rfl) ?_
  refine va_get (D := D) (ci := 5) (v := .int ni) hx hb ht inVF hown hK hP 0 rfl rfl 1 (by decide) (ht _ kf_VF_45) (fun _ h9 => h9) rfl dVF_encode_1 ?_
  refine lv_bipush (v := 16) hx hb dVF_encode_4 (by decide) ?_
  refine lv_icmp_ge (tgt := 19) hx hb dVF_encode_6 (by decide) (fun c1 => ?_) (fun c1 => ?_)
  · refine lv_aload_n hx hb dVF_encode_19 rfl (lv_at hl 0 rfl) ?_
    refine va_get (D := D) (ci := 5) (v := .ref cd0) hx hb ht inVF hown hK hP 0 rfl rfl 4 (by decide) (ht _ kf_VF_23) (fun _ h9 => h9) rfl dVF_encode_20 ?_
    refine lv_aload_n hx hb dVF_encode_23 rfl (lv_at hl 0 rfl) ?_
    refine va_get (D := D) (ci := 5) (v := .ref x0) hx hb ht inVF hown hK hP 0 rfl rfl 0 (by decide) (ht _ kf_VF_9) (fun _ h9 => h9) rfl dVF_encode_24 ?_
    refine q_i (wc := [(cd0, .inr (1, [.ref v0, .ref p0, .int np, .ref k0])), (k0, .inl (cF, 5, .inr (.inr (.inl rr)))), (x0, .inl (cF, 48, .inr (.inr (.inl xx))))]) (wr := [(h0, .inr (5, [.ref x0, .int ni, .int lb, .ref g0, .ref cd0, .ref dd0])), (g0, .inr (0, [.ref g1, .int rs, .int rd]))]) [3, 4, 1] [0, 2] hK hP hD hS hA rfl rfl (by decide) (by decide) (va_runV (As := [.ref x0]) (rest := []) ⟨hx, hb, hml, hown, ht⟩ (c_Cod_measure l D cF cI s.heap.size cd0 v0 p0 k0 x0 np rr xx hx9) (cwV 1 ht (g_V km_VF_60 ki_Cod_measure kv_Cod_measure kI_Cod kc_Cod_measure) rfl rfl rfl (by decide +kernel) ⟨Nat.le_of_ble_eq_true rfl, Nat.le_of_ble_eq_true rfl⟩) (cPre_V (ci := 1) (q0 := 0) hK hmb (hP.sub (ws' := [(cd0, .inr (1, [.ref v0, .ref p0, .int np, .ref k0])), (k0, .inl (cF, 5, .inr (.inr (.inl rr)))), (x0, .inl (cF, 48, .inr (.inr (.inl xx))))]) [3, 4, 1] rfl) (hD.sub (ws' := [(cd0, .inr (1, [.ref v0, .ref p0, .int np, .ref k0])), (k0, .inl (cF, 5, .inr (.inr (.inl rr)))), (x0, .inl (cF, 48, .inr (.inr (.inl xx))))]) [3, 4, 1] (by decide) rfl) rfl rfl) rfl rfl hl.1 rfl (lv_room (Nat.le_of_ble_eq_true rfl)) dVF_encode_27 ⟨Nat.le_of_ble_eq_true rfl, Nat.le_of_ble_eq_true rfl⟩) (fun r2 u3 H locs w4 hP hD hS => ?_)
    subst w4
    have hP : va_P D vwCl [(h0, .inr (5, [.ref x0, .int ni, .int lb, .ref g0, .ref cd0, .ref dd0])), (g0, .inr (0, [.ref g1, .int rs, .int rd])), (cd0, .inr (1, [.ref v0, .ref p0, .int np, .ref k0])), (k0, .inl (cF, 5, .inr (.inr (.inl (f_like rr xx))))), (x0, .inl (cF, 48, .inr (.inr (.inl xx))))] H := hP
    have hD : va_D A [(h0, .inr (5, [.ref x0, .int ni, .int lb, .ref g0, .ref cd0, .ref dd0])), (g0, .inr (0, [.ref g1, .int rs, .int rd])), (cd0, .inr (1, [.ref v0, .ref p0, .int np, .ref k0])), (k0, .inl (cF, 5, .inr (.inr (.inl (f_like rr xx))))), (x0, .inl (cF, 48, .inr (.inr (.inl xx))))] := hD
    refine lv_istore_n (lv' := [(1, .int (m_size (f_ac xx 0 16))), (0, .ref h0)]) hx hb dVF_encode_30 rfl hl (by decide) rfl (fun ls hl => ?_)
    refine lv_iload_n hx hb dVF_encode_31 rfl (lv_at hl 0 rfl) ?_
    refine lv_aload_n hx hb dVF_encode_32 rfl (lv_at hl 1 rfl) ?_
    refine va_get (D := D) (ci := 5) (v := .ref g0) hx hb ht inVF hown hK hP 0 rfl rfl 3 (by decide) (ht _ kf_VF_16) (fun _ h9 => h9) rfl dVF_encode_33 ?_
    refine q_i (wc := [(g0, .inr (0, [.ref g1, .int rs, .int rd]))]) (wr := [(h0, .inr (5, [.ref x0, .int ni, .int lb, .ref g0, .ref cd0, .ref dd0])), (cd0, .inr (1, [.ref v0, .ref p0, .int np, .ref k0])), (k0, .inl (cF, 5, .inr (.inr (.inl (f_like rr xx))))), (x0, .inl (cF, 48, .inr (.inr (.inl xx))))]) [1] [0, 2, 3, 4] hK hP hD hS hA rfl rfl (by decide) (by decide) (va_runV (As := []) (rest := [.int (m_size (f_ac xx 0 16))]) ⟨hx, hb, hml, hown, ht⟩ (c_Row_room l D cF cI H.size g0 g1 rs rd) (cwV 0 ht (g_V km_VF_64 ki_Row_room kv_Row_room kI_Row kc_Row_room) rfl rfl rfl (by decide +kernel) ⟨Nat.le_of_ble_eq_true rfl, Nat.le_of_ble_eq_true rfl⟩) (cPre_V (ci := 0) (q0 := 0) hK hmb (hP.sub (ws' := [(g0, .inr (0, [.ref g1, .int rs, .int rd]))]) [1] rfl) (hD.sub (ws' := [(g0, .inr (0, [.ref g1, .int rs, .int rd]))]) [1] (by decide) rfl) rfl rfl) rfl rfl hl.1 rfl (lv_room (Nat.le_of_ble_eq_true rfl)) dVF_encode_36 ⟨Nat.le_of_ble_eq_true rfl, Nat.le_of_ble_eq_true rfl⟩) (fun r5 u6 H locs w7 hP hD hS => ?_)
    subst w7
    have hP : va_P D vwCl [(h0, .inr (5, [.ref x0, .int ni, .int lb, .ref g0, .ref cd0, .ref dd0])), (cd0, .inr (1, [.ref v0, .ref p0, .int np, .ref k0])), (k0, .inl (cF, 5, .inr (.inr (.inl (f_like rr xx))))), (x0, .inl (cF, 48, .inr (.inr (.inl xx)))), (g0, .inr (0, [.ref g1, .int rs, .int rd]))] H := hP
    have hD : va_D A [(h0, .inr (5, [.ref x0, .int ni, .int lb, .ref g0, .ref cd0, .ref dd0])), (cd0, .inr (1, [.ref v0, .ref p0, .int np, .ref k0])), (k0, .inl (cF, 5, .inr (.inr (.inl (f_like rr xx))))), (x0, .inl (cF, 48, .inr (.inr (.inl xx)))), (g0, .inr (0, [.ref g1, .int rs, .int rd]))] := hD
    refine lv_icmp_le (tgt := 52) hx hb dVF_encode_39 (by decide) (fun c8 => ?_) (fun c8 => ?_)
    · exact absurd c8 hz
    · have hP := hP.sub (ws' := [(h0, .inr (5, [.ref x0, .int ni, .int lb, .ref g0, .ref cd0, .ref dd0])), (x0, .inl (cF, 48, .inr (.inr (.inl xx)))), (g0, .inr (0, [.ref g1, .int rs, .int rd])), (cd0, .inr (1, [.ref v0, .ref p0, .int np, .ref k0])), (k0, .inl (cF, 5, .inr (.inr (.inl (f_like rr xx)))))]) [0, 3, 4, 1, 2] rfl
      have hD := hD.sub (ws' := [(h0, .inr (5, [.ref x0, .int ni, .int lb, .ref g0, .ref cd0, .ref dd0])), (x0, .inl (cF, 48, .inr (.inr (.inl xx)))), (g0, .inr (0, [.ref g1, .int rs, .int rd])), (cd0, .inr (1, [.ref v0, .ref p0, .int np, .ref k0])), (k0, .inl (cF, 5, .inr (.inr (.inl (f_like rr xx)))))]) [0, 3, 4, 1, 2] (by decide) rfl
      exact e_x hl0 hx hb (hl.1.trans hml.symm) hown ht hlk hmb hmx hex hU hN hK hP hD hS (by decide +kernel) kl_VF_68 kI_IndexOutOfBoundsException (List.mem_of_getElem? (i := 3) rfl) xa_72 dVF_encode_42 dVF_encode_45 dVF_encode_46 dVF_encode_48 dVF_encode_51 (Nat.le_of_ble_eq_true rfl) (Nat.le_of_ble_eq_true rfl) (Nat.le_of_ble_eq_true rfl) (Nat.le_of_ble_eq_true rfl)
  · exact absurd ha c1

set_option maxHeartbeats 4000000 in
set_option maxRecDepth 100000 in
theorem x_VF_decode_B (l : Launch) (hl0 : l.stackTraces = false) (D : va_G) (cF cI : ClassId) (sz : Nat) (h0 x0 g0 cd0 dd0 g1 : Nat) (a : Nat) (lb : Int32) (f : Nat → Int32) (rs : Int32) (rd : Int32) (hr0 : rs ≤ 120) (hne : ¬ rs - rd = 0) (hcut : ¬ r_size f rs rd ≤ rs - rd) : vx_Met l yVF_decode (.code yVF_decode cVF_decode 1 (some .int) :: TB) ({ frames := 6, cells := 1, slots := 6, locals := 90 }) (va_Pc [.ref h0] (cPreX D cF cI [(h0, .inr (5, [.ref x0, .int (nI a), .int lb, .ref g0, .ref cd0, .ref dd0])), (g0, .inr (0, [.ref g1, .int rs, .int rd])), (g1, .inl (cI, 120, .inl f))] sz)) (va_Qi (fun _ (_ : Unit) => False) (fun _ _ => True) (va_A [(h0, .inr (5, [.ref x0, .int (nI a), .int lb, .ref g0, .ref cd0, .ref dd0])), (g0, .inr (0, [.ref g1, .int rs, .int rd])), (g1, .inl (cI, 120, .inl f))] sz)) (vx_X (fun _ : Unit => True) (xB D cF cI (va_A [(h0, .inr (5, [.ref x0, .int (nI a), .int lb, .ref g0, .ref cd0, .ref dd0])), (g0, .inr (0, [.ref g1, .int rs, .int rd])), (g1, .inl (cI, 120, .inl f))] sz) "java/lang/IllegalStateException" [(h0, .inr (5, [.ref x0, .int (nI a), .int lb, .ref g0, .ref cd0, .ref dd0])), (g0, .inr (0, [.ref g1, .int rs, .int rd])), (g1, .inl (cI, 120, .inl f))]) (va_A [(h0, .inr (5, [.ref x0, .int (nI a), .int lb, .ref g0, .ref cd0, .ref dd0])), (g0, .inr (0, [.ref g1, .int rs, .int rd])), (g1, .inl (cI, 120, .inl f))] sz)) 1 6 (va_A [(h0, .inr (5, [.ref x0, .int (nI a), .int lb, .ref g0, .ref cd0, .ref dd0])), (g0, .inr (0, [.ref g1, .int rs, .int rd])), (g1, .inl (cI, 120, .inl f))] sz) := by
  refine x_ofW (own := RVF) (by decide) rfl (fun p e s m below meth c hsz hx hb hr hml hown ht hlk hin hP hK hD hmb hex hU hN hmx => ?_)
  subst hsz
  generalize hAe : va_A [(h0, .inr (5, [.ref x0, .int (nI a), .int lb, .ref g0, .ref cd0, .ref dd0])), (g0, .inr (0, [.ref g1, .int rs, .int rd])), (g1, .inl (cI, 120, .inl f))] s.heap.size = A at hD hU hN ⊢
  have hA : ∀ q : Nat, s.heap.size ≤ q → A q := fun q h => by rw [← hAe]; exact Or.inr h
  have hS : va_S A s.heap s.heap [] := va_S.rf
  have hl := lv_entry ([.ref h0]) (n := 1) (Nat.le_of_ble_eq_true rfl)
  rw [lg_entry_eq]
  generalize (lg_sl ([.ref h0]) ++ List.replicate (1 - (lg_sl ([.ref h0])).length) Slot.unset).toArray = ls at hl ⊢
  have hl : lv_has ls 1 [(0, .ref h0)] := hl
  refine lv_aload_n hx hb dVF_decode_0 rfl (lv_at hl 0 rfl) ?_
  refine va_get (D := D) (ci := 5) (v := .ref g0) hx hb ht inVF hown hK hP 0 rfl rfl 3 (by decide) (ht _ kf_VF_16) (fun _ h9 => h9) rfl dVF_decode_1 ?_
  refine q_i (wc := [(g0, .inr (0, [.ref g1, .int rs, .int rd]))]) (wr := [(h0, .inr (5, [.ref x0, .int (nI a), .int lb, .ref g0, .ref cd0, .ref dd0])), (g1, .inl (cI, 120, .inl f))]) [1] [0, 2] hK hP hD hS hA rfl rfl (by decide) (by decide) (va_runV (As := []) (rest := []) ⟨hx, hb, hml, hown, ht⟩ (c_Row_ahead l D cF cI s.heap.size g0 g1 rs rd) (cwV 0 ht (g_V km_VF_90 ki_Row_ahead kv_Row_ahead kI_Row kc_Row_ahead) rfl rfl rfl (by decide +kernel) ⟨Nat.le_of_ble_eq_true rfl, Nat.le_of_ble_eq_true rfl⟩) (cPre_V (ci := 0) (q0 := 0) hK hmb (hP.sub (ws' := [(g0, .inr (0, [.ref g1, .int rs, .int rd]))]) [1] rfl) (hD.sub (ws' := [(g0, .inr (0, [.ref g1, .int rs, .int rd]))]) [1] (by decide) rfl) rfl rfl) rfl rfl hl.1 rfl (lv_room (Nat.le_of_ble_eq_true rfl)) dVF_decode_4 ⟨Nat.le_of_ble_eq_true rfl, Nat.le_of_ble_eq_true rfl⟩) (fun r1 u2 H locs w3 hP hD hS => ?_)
  subst w3
  have hP : va_P D vwCl [(h0, .inr (5, [.ref x0, .int (nI a), .int lb, .ref g0, .ref cd0, .ref dd0])), (g1, .inl (cI, 120, .inl f)), (g0, .inr (0, [.ref g1, .int rs, .int rd]))] H := hP
  have hD : va_D A [(h0, .inr (5, [.ref x0, .int (nI a), .int lb, .ref g0, .ref cd0, .ref dd0])), (g1, .inl (cI, 120, .inl f)), (g0, .inr (0, [.ref g1, .int rs, .int rd]))] := hD
  refine lv_if_ne (tgt := 20) hx hb dVF_decode_7 (by decide) (fun c4 => ?_) (fun c4 => ?_)
  · refine lv_aload_n hx hb dVF_decode_20 rfl (lv_at hl 0 rfl) ?_
    refine va_get (D := D) (ci := 5) (v := .ref g0) hx hb ht inVF hown hK hP 0 rfl rfl 3 (by decide) (ht _ kf_VF_16) (fun _ h9 => h9) rfl dVF_decode_21 ?_
    refine q_i (wc := [(g0, .inr (0, [.ref g1, .int rs, .int rd])), (g1, .inl (cI, 120, .inl f))]) (wr := [(h0, .inr (5, [.ref x0, .int (nI a), .int lb, .ref g0, .ref cd0, .ref dd0]))]) [2, 1] [0] hK hP hD hS hA rfl rfl (by decide) (by decide) (va_runV (As := []) (rest := []) ⟨hx, hb, hml, hown, ht⟩ (c_Row_nextSize l D cF cI H.size g0 g1 f rs rd hr0) (cwV 0 ht (g_V km_VF_98 ki_Row_nextSize kv_Row_nextSize kI_Row kc_Row_nextSize) rfl rfl rfl (by decide +kernel) ⟨Nat.le_of_ble_eq_true rfl, Nat.le_of_ble_eq_true rfl⟩) (cPre_V (ci := 0) (q0 := 0) hK hmb (hP.sub (ws' := [(g0, .inr (0, [.ref g1, .int rs, .int rd])), (g1, .inl (cI, 120, .inl f))]) [2, 1] rfl) (hD.sub (ws' := [(g0, .inr (0, [.ref g1, .int rs, .int rd])), (g1, .inl (cI, 120, .inl f))]) [2, 1] (by decide) rfl) rfl rfl) rfl rfl hl.1 rfl (lv_room (Nat.le_of_ble_eq_true rfl)) dVF_decode_24 ⟨Nat.le_of_ble_eq_true rfl, Nat.le_of_ble_eq_true rfl⟩) (fun r5 u6 H locs w7 hP hD hS => ?_)
    subst w7
    have hP : va_P D vwCl [(h0, .inr (5, [.ref x0, .int (nI a), .int lb, .ref g0, .ref cd0, .ref dd0])), (g0, .inr (0, [.ref g1, .int rs, .int rd])), (g1, .inl (cI, 120, .inl f))] H := hP
    have hD : va_D A [(h0, .inr (5, [.ref x0, .int (nI a), .int lb, .ref g0, .ref cd0, .ref dd0])), (g0, .inr (0, [.ref g1, .int rs, .int rd])), (g1, .inl (cI, 120, .inl f))] := hD
    refine lv_aload_n hx hb dVF_decode_27 rfl (lv_at hl 0 rfl) ?_
    refine va_get (D := D) (ci := 5) (v := .ref g0) hx hb ht inVF hown hK hP 0 rfl rfl 3 (by decide) (ht _ kf_VF_16) (fun _ h9 => h9) rfl dVF_decode_28 ?_
    refine q_i (wc := [(g0, .inr (0, [.ref g1, .int rs, .int rd]))]) (wr := [(h0, .inr (5, [.ref x0, .int (nI a), .int lb, .ref g0, .ref cd0, .ref dd0])), (g1, .inl (cI, 120, .inl f))]) [1] [0, 2] hK hP hD hS hA rfl rfl (by decide) (by decide) (va_runV (As := []) (rest := [.int (r_size f rs rd)]) ⟨hx, hb, hml, hown, ht⟩ (c_Row_ahead l D cF cI H.size g0 g1 rs rd) (cwV 0 ht (g_V km_VF_90 ki_Row_ahead kv_Row_ahead kI_Row kc_Row_ahead) rfl rfl rfl (by decide +kernel) ⟨Nat.le_of_ble_eq_true rfl, Nat.le_of_ble_eq_true rfl⟩) (cPre_V (ci := 0) (q0 := 0) hK hmb (hP.sub (ws' := [(g0, .inr (0, [.ref g1, .int rs, .int rd]))]) [1] rfl) (hD.sub (ws' := [(g0, .inr (0, [.ref g1, .int rs, .int rd]))]) [1] (by decide) rfl) rfl rfl) rfl rfl hl.1 rfl (lv_room (Nat.le_of_ble_eq_true rfl)) dVF_decode_31 ⟨Nat.le_of_ble_eq_true rfl, Nat.le_of_ble_eq_true rfl⟩) (fun r8 u9 H locs w10 hP hD hS => ?_)
    subst w10
    have hP : va_P D vwCl [(h0, .inr (5, [.ref x0, .int (nI a), .int lb, .ref g0, .ref cd0, .ref dd0])), (g1, .inl (cI, 120, .inl f)), (g0, .inr (0, [.ref g1, .int rs, .int rd]))] H := hP
    have hD : va_D A [(h0, .inr (5, [.ref x0, .int (nI a), .int lb, .ref g0, .ref cd0, .ref dd0])), (g1, .inl (cI, 120, .inl f)), (g0, .inr (0, [.ref g1, .int rs, .int rd]))] := hD
    refine lv_icmp_le (tgt := 47) hx hb dVF_decode_34 (by decide) (fun c11 => ?_) (fun c11 => ?_)
    · exact absurd c11 hcut
    · have hP := hP.sub (ws' := [(h0, .inr (5, [.ref x0, .int (nI a), .int lb, .ref g0, .ref cd0, .ref dd0])), (g0, .inr (0, [.ref g1, .int rs, .int rd])), (g1, .inl (cI, 120, .inl f))]) [0, 2, 1] rfl
      have hD := hD.sub (ws' := [(h0, .inr (5, [.ref x0, .int (nI a), .int lb, .ref g0, .ref cd0, .ref dd0])), (g0, .inr (0, [.ref g1, .int rs, .int rd])), (g1, .inl (cI, 120, .inl f))]) [0, 2, 1] (by decide) rfl
      exact e_x hl0 hx hb (hl.1.trans hml.symm) hown ht hlk hmb hmx hex hU hN hK hP hD hS (by decide +kernel) kl_VF_49 kI_IllegalStateException (List.mem_of_getElem? (i := 5) rfl) xa_53 dVF_decode_37 dVF_decode_40 dVF_decode_41 dVF_decode_43 dVF_decode_46 (Nat.le_of_ble_eq_true rfl) (Nat.le_of_ble_eq_true rfl) (Nat.le_of_ble_eq_true rfl) (Nat.le_of_ble_eq_true rfl)
  · exact absurd c4 hne

set_option maxHeartbeats 4000000 in
set_option maxRecDepth 100000 in
theorem x_VF_out_D (l : Launch) (hl0 : l.stackTraces = false) (D : va_G) (cF cI : ClassId) (sz : Nat) (h0 x0 g0 cd0 dd0 dv0 dp0 dv1 dv2 : Nat) (a : Nat) (lb : Int32) (nd : Int32) (ns : Int32) (nu : Int32) (sp2 : Int32) (b : Int32) (n : Int32) (hb1 : ¬ b = 0) (hn : n < 0 ∨ 16 ≤ n ∨ sp2 = 0) : vx_Met l yVF_out (.code yVF_out cVF_out 4 (some .double) :: TB) ({ frames := 6, cells := 1, slots := 6, locals := 90 }) (va_Pc [.ref h0, .int b, .int n] (cPreX D cF cI [(h0, .inr (5, [.ref x0, .int (nI a), .int lb, .ref g0, .ref cd0, .ref dd0])), (dd0, .inr (2, [.ref dv0, .ref dp0, .int nd, .int ns, .int nu])), (dv0, .inr (4, [.ref dv1, .ref dv2, .int sp2]))] sz)) (va_Qd (fun _ (_ : Unit) => False) (fun _ _ => True) (va_A [(h0, .inr (5, [.ref x0, .int (nI a), .int lb, .ref g0, .ref cd0, .ref dd0])), (dd0, .inr (2, [.ref dv0, .ref dp0, .int nd, .int ns, .int nu])), (dv0, .inr (4, [.ref dv1, .ref dv2, .int sp2]))] sz)) (vx_X (fun _ : Unit => True) (xB D cF cI (va_A [(h0, .inr (5, [.ref x0, .int (nI a), .int lb, .ref g0, .ref cd0, .ref dd0])), (dd0, .inr (2, [.ref dv0, .ref dp0, .int nd, .int ns, .int nu])), (dv0, .inr (4, [.ref dv1, .ref dv2, .int sp2]))] sz) "java/lang/IndexOutOfBoundsException" [(h0, .inr (5, [.ref x0, .int (nI a), .int lb, .ref g0, .ref cd0, .ref dd0])), (dd0, .inr (2, [.ref dv0, .ref dp0, .int nd, .int ns, .int nu])), (dv0, .inr (4, [.ref dv1, .ref dv2, .int sp2]))]) (va_A [(h0, .inr (5, [.ref x0, .int (nI a), .int lb, .ref g0, .ref cd0, .ref dd0])), (dd0, .inr (2, [.ref dv0, .ref dp0, .int nd, .int ns, .int nu])), (dv0, .inr (4, [.ref dv1, .ref dv2, .int sp2]))] sz)) 1 6 (va_A [(h0, .inr (5, [.ref x0, .int (nI a), .int lb, .ref g0, .ref cd0, .ref dd0])), (dd0, .inr (2, [.ref dv0, .ref dp0, .int nd, .int ns, .int nu])), (dv0, .inr (4, [.ref dv1, .ref dv2, .int sp2]))] sz) := by
  refine x_ofW (own := RVF) (by decide) rfl (fun p e s m below meth c hsz hx hb hr hml hown ht hlk hin hP hK hD hmb hex hU hN hmx => ?_)
  subst hsz
  generalize hAe : va_A [(h0, .inr (5, [.ref x0, .int (nI a), .int lb, .ref g0, .ref cd0, .ref dd0])), (dd0, .inr (2, [.ref dv0, .ref dp0, .int nd, .int ns, .int nu])), (dv0, .inr (4, [.ref dv1, .ref dv2, .int sp2]))] s.heap.size = A at hD hU hN ⊢
  have hA : ∀ q : Nat, s.heap.size ≤ q → A q := fun q h => by rw [← hAe]; exact Or.inr h
  have hS : va_S A s.heap s.heap [] := va_S.rf
  have hl := lv_entry ([.ref h0, .int b, .int n]) (n := 4) (Nat.le_of_ble_eq_true rfl)
  rw [lg_entry_eq]
  generalize (lg_sl ([.ref h0, .int b, .int n]) ++ List.replicate (4 - (lg_sl ([.ref h0, .int b, .int n])).length) Slot.unset).toArray = ls at hl ⊢
  have hl : lv_has ls 4 [(0, .ref h0), (1, .int b), (2, .int n)] := hl
  refine lv_iload_n hx hb dVF_out_0 rfl (lv_at hl 1 rfl) ?_
  refine lv_if_eq (tgt := 14) hx hb dVF_out_1 (by decide) (fun c1 => ?_) (fun c1 => ?_)
  · exact absurd c1 hb1
  · refine lv_aload_n hx hb dVF_out_4 rfl (lv_at hl 0 rfl) ?_
    refine va_get (D := D) (ci := 5) (v := .ref dd0) hx hb ht inVF hown hK hP 0 rfl rfl 5 (by decide) (ht _ kf_VF_30) (fun _ h9 => h9) rfl dVF_out_5 ?_
    refine va_get (D := D) (ci := 2) (v := .ref dv0) hx hb ht inDec hown hK hP 1 rfl rfl 0 (by decide) (ht _ kf_VF_107) (fun _ h9 => h9) rfl dVF_out_8 ?_
    refine lv_goto (tgt := 21) hx hb dVF_out_11 (by decide) ?_
    refine lv_astore_n (lv' := [(3, .ref dv0), (0, .ref h0), (1, .int b), (2, .int n)]) hx hb dVF_out_21 rfl hl (by decide) rfl (fun ls hl => ?_)
    refine lv_iload_n hx hb dVF_out_22 rfl (lv_at hl 3 rfl) ?_
    refine lv_if_lt (tgt := 39) hx hb dVF_out_23 (by decide) (fun c2 => ?_) (fun c2 => ?_)
    · have hP := hP.sub (ws' := [(h0, .inr (5, [.ref x0, .int (nI a), .int lb, .ref g0, .ref cd0, .ref dd0])), (dd0, .inr (2, [.ref dv0, .ref dp0, .int nd, .int ns, .int nu])), (dv0, .inr (4, [.ref dv1, .ref dv2, .int sp2]))]) [0, 1, 2] rfl
      have hD := hD.sub (ws' := [(h0, .inr (5, [.ref x0, .int (nI a), .int lb, .ref g0, .ref cd0, .ref dd0])), (dd0, .inr (2, [.ref dv0, .ref dp0, .int nd, .int ns, .int nu])), (dv0, .inr (4, [.ref dv1, .ref dv2, .int sp2]))]) [0, 1, 2] (by decide) rfl
      exact e_x hl0 hx hb (hl.1.trans hml.symm) hown ht hlk hmb hmx hex hU hN hK hP hD hS (by decide +kernel) kl_VF_68 kI_IndexOutOfBoundsException (List.mem_of_getElem? (i := 6) rfl) xa_72 dVF_out_39 dVF_out_42 dVF_out_43 dVF_out_45 dVF_out_48 (Nat.le_of_ble_eq_true rfl) (Nat.le_of_ble_eq_true rfl) (Nat.le_of_ble_eq_true rfl) (Nat.le_of_ble_eq_true rfl)
    · refine lv_iload_n hx hb dVF_out_26 rfl (lv_at hl 3 rfl) ?_
      refine lv_bipush (v := 16) hx hb dVF_out_27 (by decide) ?_
      refine lv_icmp_ge (tgt := 39) hx hb dVF_out_29 (by decide) (fun c3 => ?_) (fun c3 => ?_)
      · have hP := hP.sub (ws' := [(h0, .inr (5, [.ref x0, .int (nI a), .int lb, .ref g0, .ref cd0, .ref dd0])), (dd0, .inr (2, [.ref dv0, .ref dp0, .int nd, .int ns, .int nu])), (dv0, .inr (4, [.ref dv1, .ref dv2, .int sp2]))]) [0, 1, 2] rfl
        have hD := hD.sub (ws' := [(h0, .inr (5, [.ref x0, .int (nI a), .int lb, .ref g0, .ref cd0, .ref dd0])), (dd0, .inr (2, [.ref dv0, .ref dp0, .int nd, .int ns, .int nu])), (dv0, .inr (4, [.ref dv1, .ref dv2, .int sp2]))]) [0, 1, 2] (by decide) rfl
        exact e_x hl0 hx hb (hl.1.trans hml.symm) hown ht hlk hmb hmx hex hU hN hK hP hD hS (by decide +kernel) kl_VF_68 kI_IndexOutOfBoundsException (List.mem_of_getElem? (i := 6) rfl) xa_72 dVF_out_39 dVF_out_42 dVF_out_43 dVF_out_45 dVF_out_48 (Nat.le_of_ble_eq_true rfl) (Nat.le_of_ble_eq_true rfl) (Nat.le_of_ble_eq_true rfl) (Nat.le_of_ble_eq_true rfl)
      · refine lv_aload_n hx hb dVF_out_32 rfl (lv_at hl 0 rfl) ?_
        refine va_get (D := D) (ci := 4) (v := .int sp2) hx hb ht inVoi hown hK hP 2 rfl rfl 2 (by decide) (ht _ kf_VF_112) (fun _ h9 => h9) rfl dVF_out_33 ?_
        refine lv_if_ne (tgt := 49) hx hb dVF_out_36 (by decide) (fun c4 => ?_) (fun c4 => ?_)
        · exact absurd hn (fun q => q.elim c2 (fun q => q.elim c3 c4))
        · have hP := hP.sub (ws' := [(h0, .inr (5, [.ref x0, .int (nI a), .int lb, .ref g0, .ref cd0, .ref dd0])), (dd0, .inr (2, [.ref dv0, .ref dp0, .int nd, .int ns, .int nu])), (dv0, .inr (4, [.ref dv1, .ref dv2, .int sp2]))]) [0, 1, 2] rfl
          have hD := hD.sub (ws' := [(h0, .inr (5, [.ref x0, .int (nI a), .int lb, .ref g0, .ref cd0, .ref dd0])), (dd0, .inr (2, [.ref dv0, .ref dp0, .int nd, .int ns, .int nu])), (dv0, .inr (4, [.ref dv1, .ref dv2, .int sp2]))]) [0, 1, 2] (by decide) rfl
          exact e_x hl0 hx hb (hl.1.trans hml.symm) hown ht hlk hmb hmx hex hU hN hK hP hD hS (by decide +kernel) kl_VF_68 kI_IndexOutOfBoundsException (List.mem_of_getElem? (i := 6) rfl) xa_72 dVF_out_39 dVF_out_42 dVF_out_43 dVF_out_45 dVF_out_48 (Nat.le_of_ble_eq_true rfl) (Nat.le_of_ble_eq_true rfl) (Nat.le_of_ble_eq_true rfl) (Nat.le_of_ble_eq_true rfl)

set_option maxHeartbeats 4000000 in
set_option maxRecDepth 100000 in
theorem x_VF_out_C (l : Launch) (hl0 : l.stackTraces = false) (D : va_G) (cF cI : ClassId) (sz : Nat) (h0 x0 g0 cd0 dd0 v0 p0 k0 v1 v2 : Nat) (a : Nat) (lb : Int32) (np : Int32) (sp : Int32) (b : Int32) (n : Int32) (hb1 : b = 0) (hn : n < 0 ∨ 16 ≤ n ∨ sp = 0) : vx_Met l yVF_out (.code yVF_out cVF_out 4 (some .double) :: TB) ({ frames := 6, cells := 1, slots := 6, locals := 90 }) (va_Pc [.ref h0, .int b, .int n] (cPreX D cF cI [(h0, .inr (5, [.ref x0, .int (nI a), .int lb, .ref g0, .ref cd0, .ref dd0])), (cd0, .inr (1, [.ref v0, .ref p0, .int np, .ref k0])), (v0, .inr (4, [.ref v1, .ref v2, .int sp]))] sz)) (va_Qd (fun _ (_ : Unit) => False) (fun _ _ => True) (va_A [(h0, .inr (5, [.ref x0, .int (nI a), .int lb, .ref g0, .ref cd0, .ref dd0])), (cd0, .inr (1, [.ref v0, .ref p0, .int np, .ref k0])), (v0, .inr (4, [.ref v1, .ref v2, .int sp]))] sz)) (vx_X (fun _ : Unit => True) (xB D cF cI (va_A [(h0, .inr (5, [.ref x0, .int (nI a), .int lb, .ref g0, .ref cd0, .ref dd0])), (cd0, .inr (1, [.ref v0, .ref p0, .int np, .ref k0])), (v0, .inr (4, [.ref v1, .ref v2, .int sp]))] sz) "java/lang/IndexOutOfBoundsException" [(h0, .inr (5, [.ref x0, .int (nI a), .int lb, .ref g0, .ref cd0, .ref dd0])), (cd0, .inr (1, [.ref v0, .ref p0, .int np, .ref k0])), (v0, .inr (4, [.ref v1, .ref v2, .int sp]))]) (va_A [(h0, .inr (5, [.ref x0, .int (nI a), .int lb, .ref g0, .ref cd0, .ref dd0])), (cd0, .inr (1, [.ref v0, .ref p0, .int np, .ref k0])), (v0, .inr (4, [.ref v1, .ref v2, .int sp]))] sz)) 1 6 (va_A [(h0, .inr (5, [.ref x0, .int (nI a), .int lb, .ref g0, .ref cd0, .ref dd0])), (cd0, .inr (1, [.ref v0, .ref p0, .int np, .ref k0])), (v0, .inr (4, [.ref v1, .ref v2, .int sp]))] sz) := by
  refine x_ofW (own := RVF) (by decide) rfl (fun p e s m below meth c hsz hx hb hr hml hown ht hlk hin hP hK hD hmb hex hU hN hmx => ?_)
  subst hsz
  generalize hAe : va_A [(h0, .inr (5, [.ref x0, .int (nI a), .int lb, .ref g0, .ref cd0, .ref dd0])), (cd0, .inr (1, [.ref v0, .ref p0, .int np, .ref k0])), (v0, .inr (4, [.ref v1, .ref v2, .int sp]))] s.heap.size = A at hD hU hN ⊢
  have hA : ∀ q : Nat, s.heap.size ≤ q → A q := fun q h => by rw [← hAe]; exact Or.inr h
  have hS : va_S A s.heap s.heap [] := va_S.rf
  have hl := lv_entry ([.ref h0, .int b, .int n]) (n := 4) (Nat.le_of_ble_eq_true rfl)
  rw [lg_entry_eq]
  generalize (lg_sl ([.ref h0, .int b, .int n]) ++ List.replicate (4 - (lg_sl ([.ref h0, .int b, .int n])).length) Slot.unset).toArray = ls at hl ⊢
  have hl : lv_has ls 4 [(0, .ref h0), (1, .int b), (2, .int n)] := hl
  refine lv_iload_n hx hb dVF_out_0 rfl (lv_at hl 1 rfl) ?_
  refine lv_if_eq (tgt := 14) hx hb dVF_out_1 (by decide) (fun c1 => ?_) (fun c1 => ?_)
  · refine lv_aload_n hx hb dVF_out_14 rfl (lv_at hl 0 rfl) ?_
    refine va_get (D := D) (ci := 5) (v := .ref cd0) hx hb ht inVF hown hK hP 0 rfl rfl 4 (by decide) (ht _ kf_VF_23) (fun _ h9 => h9) rfl dVF_out_15 ?_
    refine va_get (D := D) (ci := 1) (v := .ref v0) hx hb ht inCod hown hK hP 1 rfl rfl 0 (by decide) (ht _ kf_VF_111) (fun _ h9 => h9) rfl dVF_out_18 ?_
    refine lv_astore_n (lv' := [(3, .ref v0), (0, .ref h0), (1, .int b), (2, .int n)]) hx hb dVF_out_21 rfl hl (by decide) rfl (fun ls hl => ?_)
    refine lv_iload_n hx hb dVF_out_22 rfl (lv_at hl 3 rfl) ?_
    refine lv_if_lt (tgt := 39) hx hb dVF_out_23 (by decide) (fun c2 => ?_) (fun c2 => ?_)
    · have hP := hP.sub (ws' := [(h0, .inr (5, [.ref x0, .int (nI a), .int lb, .ref g0, .ref cd0, .ref dd0])), (cd0, .inr (1, [.ref v0, .ref p0, .int np, .ref k0])), (v0, .inr (4, [.ref v1, .ref v2, .int sp]))]) [0, 1, 2] rfl
      have hD := hD.sub (ws' := [(h0, .inr (5, [.ref x0, .int (nI a), .int lb, .ref g0, .ref cd0, .ref dd0])), (cd0, .inr (1, [.ref v0, .ref p0, .int np, .ref k0])), (v0, .inr (4, [.ref v1, .ref v2, .int sp]))]) [0, 1, 2] (by decide) rfl
      exact e_x hl0 hx hb (hl.1.trans hml.symm) hown ht hlk hmb hmx hex hU hN hK hP hD hS (by decide +kernel) kl_VF_68 kI_IndexOutOfBoundsException (List.mem_of_getElem? (i := 6) rfl) xa_72 dVF_out_39 dVF_out_42 dVF_out_43 dVF_out_45 dVF_out_48 (Nat.le_of_ble_eq_true rfl) (Nat.le_of_ble_eq_true rfl) (Nat.le_of_ble_eq_true rfl) (Nat.le_of_ble_eq_true rfl)
    · refine lv_iload_n hx hb dVF_out_26 rfl (lv_at hl 3 rfl) ?_
      refine lv_bipush (v := 16) hx hb dVF_out_27 (by decide) ?_
      refine lv_icmp_ge (tgt := 39) hx hb dVF_out_29 (by decide) (fun c3 => ?_) (fun c3 => ?_)
      · have hP := hP.sub (ws' := [(h0, .inr (5, [.ref x0, .int (nI a), .int lb, .ref g0, .ref cd0, .ref dd0])), (cd0, .inr (1, [.ref v0, .ref p0, .int np, .ref k0])), (v0, .inr (4, [.ref v1, .ref v2, .int sp]))]) [0, 1, 2] rfl
        have hD := hD.sub (ws' := [(h0, .inr (5, [.ref x0, .int (nI a), .int lb, .ref g0, .ref cd0, .ref dd0])), (cd0, .inr (1, [.ref v0, .ref p0, .int np, .ref k0])), (v0, .inr (4, [.ref v1, .ref v2, .int sp]))]) [0, 1, 2] (by decide) rfl
        exact e_x hl0 hx hb (hl.1.trans hml.symm) hown ht hlk hmb hmx hex hU hN hK hP hD hS (by decide +kernel) kl_VF_68 kI_IndexOutOfBoundsException (List.mem_of_getElem? (i := 6) rfl) xa_72 dVF_out_39 dVF_out_42 dVF_out_43 dVF_out_45 dVF_out_48 (Nat.le_of_ble_eq_true rfl) (Nat.le_of_ble_eq_true rfl) (Nat.le_of_ble_eq_true rfl) (Nat.le_of_ble_eq_true rfl)
      · refine lv_aload_n hx hb dVF_out_32 rfl (lv_at hl 0 rfl) ?_
        refine va_get (D := D) (ci := 4) (v := .int sp) hx hb ht inVoi hown hK hP 2 rfl rfl 2 (by decide) (ht _ kf_VF_112) (fun _ h9 => h9) rfl dVF_out_33 ?_
        refine lv_if_ne (tgt := 49) hx hb dVF_out_36 (by decide) (fun c4 => ?_) (fun c4 => ?_)
        · exact absurd hn (fun q => q.elim c2 (fun q => q.elim c3 c4))
        · have hP := hP.sub (ws' := [(h0, .inr (5, [.ref x0, .int (nI a), .int lb, .ref g0, .ref cd0, .ref dd0])), (cd0, .inr (1, [.ref v0, .ref p0, .int np, .ref k0])), (v0, .inr (4, [.ref v1, .ref v2, .int sp]))]) [0, 1, 2] rfl
          have hD := hD.sub (ws' := [(h0, .inr (5, [.ref x0, .int (nI a), .int lb, .ref g0, .ref cd0, .ref dd0])), (cd0, .inr (1, [.ref v0, .ref p0, .int np, .ref k0])), (v0, .inr (4, [.ref v1, .ref v2, .int sp]))]) [0, 1, 2] (by decide) rfl
          exact e_x hl0 hx hb (hl.1.trans hml.symm) hown ht hlk hmb hmx hex hU hN hK hP hD hS (by decide +kernel) kl_VF_68 kI_IndexOutOfBoundsException (List.mem_of_getElem? (i := 6) rfl) xa_72 dVF_out_39 dVF_out_42 dVF_out_43 dVF_out_45 dVF_out_48 (Nat.le_of_ble_eq_true rfl) (Nat.le_of_ble_eq_true rfl) (Nat.le_of_ble_eq_true rfl) (Nat.le_of_ble_eq_true rfl)
  · exact absurd hb1 c1

set_option maxHeartbeats 4000000 in
set_option maxRecDepth 100000 in
theorem x_VF_code_A (l : Launch) (hl0 : l.stackTraces = false) (D : va_G) (cF cI : ClassId) (sz : Nat) (h0 x0 g0 cd0 dd0 v0 p0 k0 : Nat) (a : Nat) (lb : Int32) (np : Int32) (k : Int32) (hk : k.toInt < 0 ∨ 6 < k.toInt) : vx_Met l yVF_code (.code yVF_code cVF_code 3 (some .int) :: TB) ({ frames := 6, cells := 1, slots := 6, locals := 90 }) (va_Pc [.ref h0, .int k] (cPreX D cF cI [(h0, .inr (5, [.ref x0, .int (nI a), .int lb, .ref g0, .ref cd0, .ref dd0])), (cd0, .inr (1, [.ref v0, .ref p0, .int np, .ref k0]))] sz)) (va_Qi (fun _ (_ : Unit) => False) (fun _ _ => True) (va_A [(h0, .inr (5, [.ref x0, .int (nI a), .int lb, .ref g0, .ref cd0, .ref dd0])), (cd0, .inr (1, [.ref v0, .ref p0, .int np, .ref k0]))] sz)) (vx_X (fun _ : Unit => True) (xB D cF cI (va_A [(h0, .inr (5, [.ref x0, .int (nI a), .int lb, .ref g0, .ref cd0, .ref dd0])), (cd0, .inr (1, [.ref v0, .ref p0, .int np, .ref k0]))] sz) "java/lang/IllegalArgumentException" [(h0, .inr (5, [.ref x0, .int (nI a), .int lb, .ref g0, .ref cd0, .ref dd0])), (cd0, .inr (1, [.ref v0, .ref p0, .int np, .ref k0]))]) (va_A [(h0, .inr (5, [.ref x0, .int (nI a), .int lb, .ref g0, .ref cd0, .ref dd0])), (cd0, .inr (1, [.ref v0, .ref p0, .int np, .ref k0]))] sz)) 1 6 (va_A [(h0, .inr (5, [.ref x0, .int (nI a), .int lb, .ref g0, .ref cd0, .ref dd0])), (cd0, .inr (1, [.ref v0, .ref p0, .int np, .ref k0]))] sz) := by
  refine x_ofW (own := RVF) (by decide) rfl (fun p e s m below meth c hsz hx hb hr hml hown ht hlk hin hP hK hD hmb hex hU hN hmx => ?_)
  subst hsz
  generalize hAe : va_A [(h0, .inr (5, [.ref x0, .int (nI a), .int lb, .ref g0, .ref cd0, .ref dd0])), (cd0, .inr (1, [.ref v0, .ref p0, .int np, .ref k0]))] s.heap.size = A at hD hU hN ⊢
  have hA : ∀ q : Nat, s.heap.size ≤ q → A q := fun q h => by rw [← hAe]; exact Or.inr h
  have hS : va_S A s.heap s.heap [] := va_S.rf
  have hl := lv_entry ([.ref h0, .int k]) (n := 3) (Nat.le_of_ble_eq_true rfl)
  rw [lg_entry_eq]
  generalize (lg_sl ([.ref h0, .int k]) ++ List.replicate (3 - (lg_sl ([.ref h0, .int k])).length) Slot.unset).toArray = ls at hl ⊢
  have hl : lv_has ls 3 [(0, .ref h0), (1, .int k)] := hl
  refine lv_aload_n hx hb dVF_code_0 rfl (lv_at hl 0 rfl) ?_
  refine va_get (D := D) (ci := 5) (v := .ref cd0) hx hb ht inVF hown hK hP 0 rfl rfl 4 (by decide) (ht _ kf_VF_23) (fun _ h9 => h9) rfl dVF_code_1 ?_
  refine va_get (D := D) (ci := 1) (v := .ref p0) hx hb ht inCod hown hK hP 1 rfl rfl 1 (by decide) (ht _ kf_VF_122) (fun _ h9 => h9) rfl dVF_code_4 ?_
  refine lv_astore_n (lv' := [(2, .ref p0), (0, .ref h0), (1, .int k)]) hx hb dVF_code_7 rfl hl (by decide) rfl (fun ls hl => ?_)
  refine lv_iload_n hx hb dVF_code_8 rfl (lv_at hl 2 rfl) ?_
  refine lv_tableOut (tgt := 80) hx hb dVF_code_9 hk (by decide) ?_
  have hP := hP.sub (ws' := [(h0, .inr (5, [.ref x0, .int (nI a), .int lb, .ref g0, .ref cd0, .ref dd0])), (cd0, .inr (1, [.ref v0, .ref p0, .int np, .ref k0]))]) [0, 1] rfl
  have hD := hD.sub (ws' := [(h0, .inr (5, [.ref x0, .int (nI a), .int lb, .ref g0, .ref cd0, .ref dd0])), (cd0, .inr (1, [.ref v0, .ref p0, .int np, .ref k0]))]) [0, 1] (by decide) rfl
  exact e_x hl0 hx hb (hl.1.trans hml.symm) hown ht hlk hmb hmx hex hU hN hK hP hD hS (by decide +kernel) kl_VF_38 kI_IllegalArgumentException (List.mem_of_getElem? (i := 7) rfl) xa_42 dVF_code_80 dVF_code_83 dVF_code_84 dVF_code_86 dVF_code_89 (Nat.le_of_ble_eq_true rfl) (Nat.le_of_ble_eq_true rfl) (Nat.le_of_ble_eq_true rfl) (Nat.le_of_ble_eq_true rfl)

set_option maxHeartbeats 4000000 in
set_option maxRecDepth 100000 in
theorem x_VF_stream_A (l : Launch) (hl0 : l.stackTraces = false) (D : va_G) (cF cI : ClassId) (sz : Nat) (h0 x0 g0 cd0 dd0 g1 : Nat) (a : Nat) (lb : Int32) (rs : Int32) (rd : Int32) (k : Int32) (hk1 : ¬ k = (-1)) (hh : r_has rs k = 0) : vx_Met l yVF_stream (.code yVF_stream cVF_stream 2 (some .int) :: TB) ({ frames := 6, cells := 1, slots := 6, locals := 90 }) (va_Pc [.ref h0, .int k] (cPreX D cF cI [(h0, .inr (5, [.ref x0, .int (nI a), .int lb, .ref g0, .ref cd0, .ref dd0])), (g0, .inr (0, [.ref g1, .int rs, .int rd]))] sz)) (va_Qi (fun _ (_ : Unit) => False) (fun _ _ => True) (va_A [(h0, .inr (5, [.ref x0, .int (nI a), .int lb, .ref g0, .ref cd0, .ref dd0])), (g0, .inr (0, [.ref g1, .int rs, .int rd]))] sz)) (vx_X (fun _ : Unit => True) (xB D cF cI (va_A [(h0, .inr (5, [.ref x0, .int (nI a), .int lb, .ref g0, .ref cd0, .ref dd0])), (g0, .inr (0, [.ref g1, .int rs, .int rd]))] sz) "java/lang/IndexOutOfBoundsException" [(h0, .inr (5, [.ref x0, .int (nI a), .int lb, .ref g0, .ref cd0, .ref dd0])), (g0, .inr (0, [.ref g1, .int rs, .int rd]))]) (va_A [(h0, .inr (5, [.ref x0, .int (nI a), .int lb, .ref g0, .ref cd0, .ref dd0])), (g0, .inr (0, [.ref g1, .int rs, .int rd]))] sz)) 1 6 (va_A [(h0, .inr (5, [.ref x0, .int (nI a), .int lb, .ref g0, .ref cd0, .ref dd0])), (g0, .inr (0, [.ref g1, .int rs, .int rd]))] sz) := by
  refine x_ofW (own := RVF) (by decide) rfl (fun p e s m below meth c hsz hx hb hr hml hown ht hlk hin hP hK hD hmb hex hU hN hmx => ?_)
  subst hsz
  generalize hAe : va_A [(h0, .inr (5, [.ref x0, .int (nI a), .int lb, .ref g0, .ref cd0, .ref dd0])), (g0, .inr (0, [.ref g1, .int rs, .int rd]))] s.heap.size = A at hD hU hN ⊢
  have hA : ∀ q : Nat, s.heap.size ≤ q → A q := fun q h => by rw [← hAe]; exact Or.inr h
  have hS : va_S A s.heap s.heap [] := va_S.rf
  have hl := lv_entry ([.ref h0, .int k]) (n := 2) (Nat.le_of_ble_eq_true rfl)
  rw [lg_entry_eq]
  generalize (lg_sl ([.ref h0, .int k]) ++ List.replicate (2 - (lg_sl ([.ref h0, .int k])).length) Slot.unset).toArray = ls at hl ⊢
  have hl : lv_has ls 2 [(0, .ref h0), (1, .int k)] := hl
  refine lv_iload_n hx hb dVF_stream_0 rfl (lv_at hl 1 rfl) ?_
  refine lv_iconst (v := (-1)) hx hb dVF_stream_1 (by decide) ?_
  refine lv_icmp_ne (tgt := 13) hx hb dVF_stream_2 (by decide) (fun c1 => ?_) (fun c1 => ?_)
  · refine lv_aload_n hx hb dVF_stream_13 rfl (lv_at hl 0 rfl) ?_
    refine va_get (D := D) (ci := 5) (v := .ref g0) hx hb ht inVF hown hK hP 0 rfl rfl 3 (by decide) (ht _ kf_VF_16) (fun _ h9 => h9) rfl dVF_stream_14 ?_
    refine lv_iload_n hx hb dVF_stream_17 rfl (lv_at hl 1 rfl) ?_
    refine q_i (wc := [(g0, .inr (0, [.ref g1, .int rs, .int rd]))]) (wr := [(h0, .inr (5, [.ref x0, .int (nI a), .int lb, .ref g0, .ref cd0, .ref dd0]))]) [1] [0] hK hP hD hS hA rfl rfl (by decide) (by decide) (va_runV (As := [.int k]) (rest := []) ⟨hx, hb, hml, hown, ht⟩ (c_Row_has l D cF cI s.heap.size g0 g1 rs rd k) (cwV 1 ht (g_V km_VF_147 ki_Row_has kv_Row_has kI_Row kc_Row_has) rfl rfl rfl (by decide +kernel) ⟨Nat.le_of_ble_eq_true rfl, Nat.le_of_ble_eq_true rfl⟩) (cPre_V (ci := 0) (q0 := 0) hK hmb (hP.sub (ws' := [(g0, .inr (0, [.ref g1, .int rs, .int rd]))]) [1] rfl) (hD.sub (ws' := [(g0, .inr (0, [.ref g1, .int rs, .int rd]))]) [1] (by decide) rfl) rfl rfl) rfl rfl hl.1 rfl (lv_room (Nat.le_of_ble_eq_true rfl)) dVF_stream_18 ⟨Nat.le_of_ble_eq_true rfl, Nat.le_of_ble_eq_true rfl⟩) (fun r2 u3 H locs w4 hP hD hS => ?_)
    subst w4
    have hP : va_P D vwCl [(h0, .inr (5, [.ref x0, .int (nI a), .int lb, .ref g0, .ref cd0, .ref dd0])), (g0, .inr (0, [.ref g1, .int rs, .int rd]))] H := hP
    have hD : va_D A [(h0, .inr (5, [.ref x0, .int (nI a), .int lb, .ref g0, .ref cd0, .ref dd0])), (g0, .inr (0, [.ref g1, .int rs, .int rd]))] := hD
    refine lv_if_ne (tgt := 34) hx hb dVF_stream_21 (by decide) (fun c5 => ?_) (fun c5 => ?_)
    · exact absurd hh c5
    · have hP := hP.sub (ws' := [(h0, .inr (5, [.ref x0, .int (nI a), .int lb, .ref g0, .ref cd0, .ref dd0])), (g0, .inr (0, [.ref g1, .int rs, .int rd]))]) [0, 1] rfl
      have hD := hD.sub (ws' := [(h0, .inr (5, [.ref x0, .int (nI a), .int lb, .ref g0, .ref cd0, .ref dd0])), (g0, .inr (0, [.ref g1, .int rs, .int rd]))]) [0, 1] (by decide) rfl
      exact e_x hl0 hx hb (hl.1.trans hml.symm) hown ht hlk hmb hmx hex hU hN hK hP hD hS (by decide +kernel) kl_VF_68 kI_IndexOutOfBoundsException (List.mem_of_getElem? (i := 8) rfl) xa_72 dVF_stream_24 dVF_stream_27 dVF_stream_28 dVF_stream_30 dVF_stream_33 (Nat.le_of_ble_eq_true rfl) (Nat.le_of_ble_eq_true rfl) (Nat.le_of_ble_eq_true rfl) (Nat.le_of_ble_eq_true rfl)
  · exact absurd c1 hk1

set_option maxHeartbeats 4000000 in
set_option maxRecDepth 100000 in
theorem x_VF_damage_A (l : Launch) (hl0 : l.stackTraces = false) (D : va_G) (cF cI : ClassId) (sz : Nat) (h0 x0 g0 cd0 dd0 : Nat) (a : Nat) (lb : Int32) (k : Int32) (b : Int32) (hb9 : b < 0 ∨ ¬ b ≤ 255) : vx_Met l yVF_damage (.code yVF_damage cVF_damage 4 (some .int) :: TB) ({ frames := 6, cells := 1, slots := 6, locals := 90 }) (va_Pc [.ref h0, .int k, .int b] (cPreX D cF cI [(h0, .inr (5, [.ref x0, .int (nI a), .int lb, .ref g0, .ref cd0, .ref dd0]))] sz)) (va_Qi (fun _ (_ : Unit) => False) (fun _ _ => True) (va_A [(h0, .inr (5, [.ref x0, .int (nI a), .int lb, .ref g0, .ref cd0, .ref dd0]))] sz)) (vx_X (fun _ : Unit => True) (xB D cF cI (va_A [(h0, .inr (5, [.ref x0, .int (nI a), .int lb, .ref g0, .ref cd0, .ref dd0]))] sz) "java/lang/IllegalArgumentException" [(h0, .inr (5, [.ref x0, .int (nI a), .int lb, .ref g0, .ref cd0, .ref dd0]))]) (va_A [(h0, .inr (5, [.ref x0, .int (nI a), .int lb, .ref g0, .ref cd0, .ref dd0]))] sz)) 1 6 (va_A [(h0, .inr (5, [.ref x0, .int (nI a), .int lb, .ref g0, .ref cd0, .ref dd0]))] sz) := by
  refine x_ofW (own := RVF) (by decide) rfl (fun p e s m below meth c hsz hx hb hr hml hown ht hlk hin hP hK hD hmb hex hU hN hmx => ?_)
  subst hsz
  generalize hAe : va_A [(h0, .inr (5, [.ref x0, .int (nI a), .int lb, .ref g0, .ref cd0, .ref dd0]))] s.heap.size = A at hD hU hN ⊢
  have hA : ∀ q : Nat, s.heap.size ≤ q → A q := fun q h => by rw [← hAe]; exact Or.inr h
  have hS : va_S A s.heap s.heap [] := va_S.rf
  have hl := lv_entry ([.ref h0, .int k, .int b]) (n := 4) (Nat.le_of_ble_eq_true rfl)
  rw [lg_entry_eq]
  generalize (lg_sl ([.ref h0, .int k, .int b]) ++ List.replicate (4 - (lg_sl ([.ref h0, .int k, .int b])).length) Slot.unset).toArray = ls at hl ⊢
  have hl : lv_has ls 4 [(0, .ref h0), (1, .int k), (2, .int b)] := hl
  refine lv_iload_n hx hb dVF_damage_0 rfl (lv_at hl 2 rfl) ?_
  refine lv_if_lt (tgt := 11) hx hb dVF_damage_1 (by decide) (fun c1 => ?_) (fun c1 => ?_)
  · have hP := hP.sub (ws' := [(h0, .inr (5, [.ref x0, .int (nI a), .int lb, .ref g0, .ref cd0, .ref dd0]))]) [0] rfl
    have hD := hD.sub (ws' := [(h0, .inr (5, [.ref x0, .int (nI a), .int lb, .ref g0, .ref cd0, .ref dd0]))]) [0] (by decide) rfl
    exact e_x hl0 hx hb (hl.1.trans hml.symm) hown ht hlk hmb hmx hex hU hN hK hP hD hS (by decide +kernel) kl_VF_38 kI_IllegalArgumentException (List.mem_of_getElem? (i := 9) rfl) xa_42 dVF_damage_11 dVF_damage_14 dVF_damage_15 dVF_damage_17 dVF_damage_20 (Nat.le_of_ble_eq_true rfl) (Nat.le_of_ble_eq_true rfl) (Nat.le_of_ble_eq_true rfl) (Nat.le_of_ble_eq_true rfl)
  · refine lv_iload_n hx hb dVF_damage_4 rfl (lv_at hl 2 rfl) ?_
    refine lv_sipush (v := 255) hx hb dVF_damage_5 (by decide) ?_
    refine lv_icmp_le (tgt := 21) hx hb dVF_damage_8 (by decide) (fun c2 => ?_) (fun c2 => ?_)
    · exact absurd hb9 (fun q => q.elim c1 (fun q => q c2))
    · have hP := hP.sub (ws' := [(h0, .inr (5, [.ref x0, .int (nI a), .int lb, .ref g0, .ref cd0, .ref dd0]))]) [0] rfl
      have hD := hD.sub (ws' := [(h0, .inr (5, [.ref x0, .int (nI a), .int lb, .ref g0, .ref cd0, .ref dd0]))]) [0] (by decide) rfl
      exact e_x hl0 hx hb (hl.1.trans hml.symm) hown ht hlk hmb hmx hex hU hN hK hP hD hS (by decide +kernel) kl_VF_38 kI_IllegalArgumentException (List.mem_of_getElem? (i := 9) rfl) xa_42 dVF_damage_11 dVF_damage_14 dVF_damage_15 dVF_damage_17 dVF_damage_20 (Nat.le_of_ble_eq_true rfl) (Nat.le_of_ble_eq_true rfl) (Nat.le_of_ble_eq_true rfl) (Nat.le_of_ble_eq_true rfl)

set_option maxHeartbeats 4000000 in
set_option maxRecDepth 100000 in
theorem x_VF_damage_B (l : Launch) (hl0 : l.stackTraces = false) (D : va_G) (cF cI : ClassId) (sz : Nat) (h0 x0 g0 cd0 dd0 g1 : Nat) (a : Nat) (lb : Int32) (rs : Int32) (rd : Int32) (k : Int32) (b : Int32) (hb1 : ¬ b < 0) (hb2 : b ≤ 255) (hh : r_has rs k = 0) : vx_Met l yVF_damage (.code yVF_damage cVF_damage 4 (some .int) :: TB) ({ frames := 6, cells := 1, slots := 6, locals := 90 }) (va_Pc [.ref h0, .int k, .int b] (cPreX D cF cI [(h0, .inr (5, [.ref x0, .int (nI a), .int lb, .ref g0, .ref cd0, .ref dd0])), (g0, .inr (0, [.ref g1, .int rs, .int rd]))] sz)) (va_Qi (fun _ (_ : Unit) => False) (fun _ _ => True) (va_A [(h0, .inr (5, [.ref x0, .int (nI a), .int lb, .ref g0, .ref cd0, .ref dd0])), (g0, .inr (0, [.ref g1, .int rs, .int rd]))] sz)) (vx_X (fun _ : Unit => True) (xB D cF cI (va_A [(h0, .inr (5, [.ref x0, .int (nI a), .int lb, .ref g0, .ref cd0, .ref dd0])), (g0, .inr (0, [.ref g1, .int rs, .int rd]))] sz) "java/lang/IndexOutOfBoundsException" [(h0, .inr (5, [.ref x0, .int (nI a), .int lb, .ref g0, .ref cd0, .ref dd0])), (g0, .inr (0, [.ref g1, .int rs, .int rd]))]) (va_A [(h0, .inr (5, [.ref x0, .int (nI a), .int lb, .ref g0, .ref cd0, .ref dd0])), (g0, .inr (0, [.ref g1, .int rs, .int rd]))] sz)) 1 6 (va_A [(h0, .inr (5, [.ref x0, .int (nI a), .int lb, .ref g0, .ref cd0, .ref dd0])), (g0, .inr (0, [.ref g1, .int rs, .int rd]))] sz) := by
  refine x_ofW (own := RVF) (by decide) rfl (fun p e s m below meth c hsz hx hb hr hml hown ht hlk hin hP hK hD hmb hex hU hN hmx => ?_)
  subst hsz
  generalize hAe : va_A [(h0, .inr (5, [.ref x0, .int (nI a), .int lb, .ref g0, .ref cd0, .ref dd0])), (g0, .inr (0, [.ref g1, .int rs, .int rd]))] s.heap.size = A at hD hU hN ⊢
  have hA : ∀ q : Nat, s.heap.size ≤ q → A q := fun q h => by rw [← hAe]; exact Or.inr h
  have hS : va_S A s.heap s.heap [] := va_S.rf
  have hl := lv_entry ([.ref h0, .int k, .int b]) (n := 4) (Nat.le_of_ble_eq_true rfl)
  rw [lg_entry_eq]
  generalize (lg_sl ([.ref h0, .int k, .int b]) ++ List.replicate (4 - (lg_sl ([.ref h0, .int k, .int b])).length) Slot.unset).toArray = ls at hl ⊢
  have hl : lv_has ls 4 [(0, .ref h0), (1, .int k), (2, .int b)] := hl
  refine lv_iload_n hx hb dVF_damage_0 rfl (lv_at hl 2 rfl) ?_
  refine lv_if_lt (tgt := 11) hx hb dVF_damage_1 (by decide) (fun c1 => ?_) (fun c1 => ?_)
  · exact absurd c1 hb1
  · refine lv_iload_n hx hb dVF_damage_4 rfl (lv_at hl 2 rfl) ?_
    refine lv_sipush (v := 255) hx hb dVF_damage_5 (by decide) ?_
    refine lv_icmp_le (tgt := 21) hx hb dVF_damage_8 (by decide) (fun c2 => ?_) (fun c2 => ?_)
    · refine lv_aload_n hx hb dVF_damage_21 rfl (lv_at hl 0 rfl) ?_
      refine va_get (D := D) (ci := 5) (v := .ref g0) hx hb ht inVF hown hK hP 0 rfl rfl 3 (by decide) (ht _ kf_VF_16) (fun _ h9 => h9) rfl dVF_damage_22 ?_
      refine lv_iload_n hx hb dVF_damage_25 rfl (lv_at hl 1 rfl) ?_
      refine q_i (wc := [(g0, .inr (0, [.ref g1, .int rs, .int rd]))]) (wr := [(h0, .inr (5, [.ref x0, .int (nI a), .int lb, .ref g0, .ref cd0, .ref dd0]))]) [1] [0] hK hP hD hS hA rfl rfl (by decide) (by decide) (va_runV (As := [.int k]) (rest := []) ⟨hx, hb, hml, hown, ht⟩ (c_Row_has l D cF cI s.heap.size g0 g1 rs rd k) (cwV 1 ht (g_V km_VF_147 ki_Row_has kv_Row_has kI_Row kc_Row_has) rfl rfl rfl (by decide +kernel) ⟨Nat.le_of_ble_eq_true rfl, Nat.le_of_ble_eq_true rfl⟩) (cPre_V (ci := 0) (q0 := 0) hK hmb (hP.sub (ws' := [(g0, .inr (0, [.ref g1, .int rs, .int rd]))]) [1] rfl) (hD.sub (ws' := [(g0, .inr (0, [.ref g1, .int rs, .int rd]))]) [1] (by decide) rfl) rfl rfl) rfl rfl hl.1 rfl (lv_room (Nat.le_of_ble_eq_true rfl)) dVF_damage_26 ⟨Nat.le_of_ble_eq_true rfl, Nat.le_of_ble_eq_true rfl⟩) (fun r3 u4 H locs w5 hP hD hS => ?_)
      subst w5
      have hP : va_P D vwCl [(h0, .inr (5, [.ref x0, .int (nI a), .int lb, .ref g0, .ref cd0, .ref dd0])), (g0, .inr (0, [.ref g1, .int rs, .int rd]))] H := hP
      have hD : va_D A [(h0, .inr (5, [.ref x0, .int (nI a), .int lb, .ref g0, .ref cd0, .ref dd0])), (g0, .inr (0, [.ref g1, .int rs, .int rd]))] := hD
      refine lv_if_ne (tgt := 42) hx hb dVF_damage_29 (by decide) (fun c6 => ?_) (fun c6 => ?_)
      · exact absurd hh c6
      · have hP := hP.sub (ws' := [(h0, .inr (5, [.ref x0, .int (nI a), .int lb, .ref g0, .ref cd0, .ref dd0])), (g0, .inr (0, [.ref g1, .int rs, .int rd]))]) [0, 1] rfl
        have hD := hD.sub (ws' := [(h0, .inr (5, [.ref x0, .int (nI a), .int lb, .ref g0, .ref cd0, .ref dd0])), (g0, .inr (0, [.ref g1, .int rs, .int rd]))]) [0, 1] (by decide) rfl
        exact e_x hl0 hx hb (hl.1.trans hml.symm) hown ht hlk hmb hmx hex hU hN hK hP hD hS (by decide +kernel) kl_VF_68 kI_IndexOutOfBoundsException (List.mem_of_getElem? (i := 8) rfl) xa_72 dVF_damage_32 dVF_damage_35 dVF_damage_36 dVF_damage_38 dVF_damage_41 (Nat.le_of_ble_eq_true rfl) (Nat.le_of_ble_eq_true rfl) (Nat.le_of_ble_eq_true rfl) (Nat.le_of_ble_eq_true rfl)
    · exact absurd hb2 c2

set_option maxHeartbeats 4000000 in
set_option maxRecDepth 100000 in
theorem x_VF_cut_A (l : Launch) (hl0 : l.stackTraces = false) (D : va_G) (cF cI : ClassId) (sz : Nat) (h0 x0 g0 cd0 dd0 g1 : Nat) (a : Nat) (lb : Int32) (rs : Int32) (rd : Int32) (k : Int32) (hk : k < 0 ∨ ¬ k ≤ rs - rd) : vx_Met l yVF_cut (.code yVF_cut cVF_cut 2 (some .int) :: TB) ({ frames := 6, cells := 1, slots := 6, locals := 90 }) (va_Pc [.ref h0, .int k] (cPreX D cF cI [(h0, .inr (5, [.ref x0, .int (nI a), .int lb, .ref g0, .ref cd0, .ref dd0])), (g0, .inr (0, [.ref g1, .int rs, .int rd]))] sz)) (va_Qi (fun _ (_ : Unit) => False) (fun _ _ => True) (va_A [(h0, .inr (5, [.ref x0, .int (nI a), .int lb, .ref g0, .ref cd0, .ref dd0])), (g0, .inr (0, [.ref g1, .int rs, .int rd]))] sz)) (vx_X (fun _ : Unit => True) (xB D cF cI (va_A [(h0, .inr (5, [.ref x0, .int (nI a), .int lb, .ref g0, .ref cd0, .ref dd0])), (g0, .inr (0, [.ref g1, .int rs, .int rd]))] sz) "java/lang/IllegalArgumentException" [(h0, .inr (5, [.ref x0, .int (nI a), .int lb, .ref g0, .ref cd0, .ref dd0])), (g0, .inr (0, [.ref g1, .int rs, .int rd]))]) (va_A [(h0, .inr (5, [.ref x0, .int (nI a), .int lb, .ref g0, .ref cd0, .ref dd0])), (g0, .inr (0, [.ref g1, .int rs, .int rd]))] sz)) 1 6 (va_A [(h0, .inr (5, [.ref x0, .int (nI a), .int lb, .ref g0, .ref cd0, .ref dd0])), (g0, .inr (0, [.ref g1, .int rs, .int rd]))] sz) := by
  refine x_ofW (own := RVF) (by decide) rfl (fun p e s m below meth c hsz hx hb hr hml hown ht hlk hin hP hK hD hmb hex hU hN hmx => ?_)
  subst hsz
  generalize hAe : va_A [(h0, .inr (5, [.ref x0, .int (nI a), .int lb, .ref g0, .ref cd0, .ref dd0])), (g0, .inr (0, [.ref g1, .int rs, .int rd]))] s.heap.size = A at hD hU hN ⊢
  have hA : ∀ q : Nat, s.heap.size ≤ q → A q := fun q h => by rw [← hAe]; exact Or.inr h
  have hS : va_S A s.heap s.heap [] := va_S.rf
  have hl := lv_entry ([.ref h0, .int k]) (n := 2) (Nat.le_of_ble_eq_true rfl)
  rw [lg_entry_eq]
  generalize (lg_sl ([.ref h0, .int k]) ++ List.replicate (2 - (lg_sl ([.ref h0, .int k])).length) Slot.unset).toArray = ls at hl ⊢
  have hl : lv_has ls 2 [(0, .ref h0), (1, .int k)] := hl
  refine lv_iload_n hx hb dVF_cut_0 rfl (lv_at hl 1 rfl) ?_
  refine lv_if_lt (tgt := 15) hx hb dVF_cut_1 (by decide) (fun c1 => ?_) (fun c1 => ?_)
  · have hP := hP.sub (ws' := [(h0, .inr (5, [.ref x0, .int (nI a), .int lb, .ref g0, .ref cd0, .ref dd0])), (g0, .inr (0, [.ref g1, .int rs, .int rd]))]) [0, 1] rfl
    have hD := hD.sub (ws' := [(h0, .inr (5, [.ref x0, .int (nI a), .int lb, .ref g0, .ref cd0, .ref dd0])), (g0, .inr (0, [.ref g1, .int rs, .int rd]))]) [0, 1] (by decide) rfl
    exact e_x hl0 hx hb (hl.1.trans hml.symm) hown ht hlk hmb hmx hex hU hN hK hP hD hS (by decide +kernel) kl_VF_38 kI_IllegalArgumentException (List.mem_of_getElem? (i := 10) rfl) xa_42 dVF_cut_15 dVF_cut_18 dVF_cut_19 dVF_cut_21 dVF_cut_24 (Nat.le_of_ble_eq_true rfl) (Nat.le_of_ble_eq_true rfl) (Nat.le_of_ble_eq_true rfl) (Nat.le_of_ble_eq_true rfl)
  · refine lv_iload_n hx hb dVF_cut_4 rfl (lv_at hl 1 rfl) ?_
    refine lv_aload_n hx hb dVF_cut_5 rfl (lv_at hl 0 rfl) ?_
    refine va_get (D := D) (ci := 5) (v := .ref g0) hx hb ht inVF hown hK hP 0 rfl rfl 3 (by decide) (ht _ kf_VF_16) (fun _ h9 => h9) rfl dVF_cut_6 ?_
    refine q_i (wc := [(g0, .inr (0, [.ref g1, .int rs, .int rd]))]) (wr := [(h0, .inr (5, [.ref x0, .int (nI a), .int lb, .ref g0, .ref cd0, .ref dd0]))]) [1] [0] hK hP hD hS hA rfl rfl (by decide) (by decide) (va_runV (As := []) (rest := [.int k]) ⟨hx, hb, hml, hown, ht⟩ (c_Row_ahead l D cF cI s.heap.size g0 g1 rs rd) (cwV 0 ht (g_V km_VF_90 ki_Row_ahead kv_Row_ahead kI_Row kc_Row_ahead) rfl rfl rfl (by decide +kernel) ⟨Nat.le_of_ble_eq_true rfl, Nat.le_of_ble_eq_true rfl⟩) (cPre_V (ci := 0) (q0 := 0) hK hmb (hP.sub (ws' := [(g0, .inr (0, [.ref g1, .int rs, .int rd]))]) [1] rfl) (hD.sub (ws' := [(g0, .inr (0, [.ref g1, .int rs, .int rd]))]) [1] (by decide) rfl) rfl rfl) rfl rfl hl.1 rfl (lv_room (Nat.le_of_ble_eq_true rfl)) dVF_cut_9 ⟨Nat.le_of_ble_eq_true rfl, Nat.le_of_ble_eq_true rfl⟩) (fun r2 u3 H locs w4 hP hD hS => ?_)
    subst w4
    have hP : va_P D vwCl [(h0, .inr (5, [.ref x0, .int (nI a), .int lb, .ref g0, .ref cd0, .ref dd0])), (g0, .inr (0, [.ref g1, .int rs, .int rd]))] H := hP
    have hD : va_D A [(h0, .inr (5, [.ref x0, .int (nI a), .int lb, .ref g0, .ref cd0, .ref dd0])), (g0, .inr (0, [.ref g1, .int rs, .int rd]))] := hD
    refine lv_icmp_le (tgt := 25) hx hb dVF_cut_12 (by decide) (fun c5 => ?_) (fun c5 => ?_)
    · exact absurd hk (fun q => q.elim c1 (fun q => q c5))
    · have hP := hP.sub (ws' := [(h0, .inr (5, [.ref x0, .int (nI a), .int lb, .ref g0, .ref cd0, .ref dd0])), (g0, .inr (0, [.ref g1, .int rs, .int rd]))]) [0, 1] rfl
      have hD := hD.sub (ws' := [(h0, .inr (5, [.ref x0, .int (nI a), .int lb, .ref g0, .ref cd0, .ref dd0])), (g0, .inr (0, [.ref g1, .int rs, .int rd]))]) [0, 1] (by decide) rfl
      exact e_x hl0 hx hb (hl.1.trans hml.symm) hown ht hlk hmb hmx hex hU hN hK hP hD hS (by decide +kernel) kl_VF_38 kI_IllegalArgumentException (List.mem_of_getElem? (i := 10) rfl) xa_42 dVF_cut_15 dVF_cut_18 dVF_cut_19 dVF_cut_21 dVF_cut_24 (Nat.le_of_ble_eq_true rfl) (Nat.le_of_ble_eq_true rfl) (Nat.le_of_ble_eq_true rfl) (Nat.le_of_ble_eq_true rfl)

set_option maxHeartbeats 4000000 in
set_option maxRecDepth 100000 in
theorem x_VF_apart_A (l : Launch) (hl0 : l.stackTraces = false) (D : va_G) (cF cI : ClassId) (sz : Nat) (h0 x0 g0 cd0 dd0 v0 p0 k0 v1 v2 dv0 dp0 dv1 dv2 : Nat) (a : Nat) (lb : Int32) (np : Int32) (sp : Int32) (nd : Int32) (ns : Int32) (nu : Int32) (sp2 : Int32) (hs : sp2 = 0 ∨ sp = 0) : vx_Met l yVF_apart (.code yVF_apart cVF_apart 5 (some .double) :: TB) ({ frames := 6, cells := 1, slots := 6, locals := 90 }) (va_Pc [.ref h0] (cPreX D cF cI [(h0, .inr (5, [.ref x0, .int (nI a), .int lb, .ref g0, .ref cd0, .ref dd0])), (cd0, .inr (1, [.ref v0, .ref p0, .int np, .ref k0])), (v0, .inr (4, [.ref v1, .ref v2, .int sp])), (dd0, .inr (2, [.ref dv0, .ref dp0, .int nd, .int ns, .int nu])), (dv0, .inr (4, [.ref dv1, .ref dv2, .int sp2]))] sz)) (va_Qd (fun _ (_ : Unit) => False) (fun _ _ => True) (va_A [(h0, .inr (5, [.ref x0, .int (nI a), .int lb, .ref g0, .ref cd0, .ref dd0])), (cd0, .inr (1, [.ref v0, .ref p0, .int np, .ref k0])), (v0, .inr (4, [.ref v1, .ref v2, .int sp])), (dd0, .inr (2, [.ref dv0, .ref dp0, .int nd, .int ns, .int nu])), (dv0, .inr (4, [.ref dv1, .ref dv2, .int sp2]))] sz)) (vx_X (fun _ : Unit => True) (xB D cF cI (va_A [(h0, .inr (5, [.ref x0, .int (nI a), .int lb, .ref g0, .ref cd0, .ref dd0])), (cd0, .inr (1, [.ref v0, .ref p0, .int np, .ref k0])), (v0, .inr (4, [.ref v1, .ref v2, .int sp])), (dd0, .inr (2, [.ref dv0, .ref dp0, .int nd, .int ns, .int nu])), (dv0, .inr (4, [.ref dv1, .ref dv2, .int sp2]))] sz) "java/lang/IllegalStateException" [(h0, .inr (5, [.ref x0, .int (nI a), .int lb, .ref g0, .ref cd0, .ref dd0])), (cd0, .inr (1, [.ref v0, .ref p0, .int np, .ref k0])), (v0, .inr (4, [.ref v1, .ref v2, .int sp])), (dd0, .inr (2, [.ref dv0, .ref dp0, .int nd, .int ns, .int nu])), (dv0, .inr (4, [.ref dv1, .ref dv2, .int sp2]))]) (va_A [(h0, .inr (5, [.ref x0, .int (nI a), .int lb, .ref g0, .ref cd0, .ref dd0])), (cd0, .inr (1, [.ref v0, .ref p0, .int np, .ref k0])), (v0, .inr (4, [.ref v1, .ref v2, .int sp])), (dd0, .inr (2, [.ref dv0, .ref dp0, .int nd, .int ns, .int nu])), (dv0, .inr (4, [.ref dv1, .ref dv2, .int sp2]))] sz)) 1 6 (va_A [(h0, .inr (5, [.ref x0, .int (nI a), .int lb, .ref g0, .ref cd0, .ref dd0])), (cd0, .inr (1, [.ref v0, .ref p0, .int np, .ref k0])), (v0, .inr (4, [.ref v1, .ref v2, .int sp])), (dd0, .inr (2, [.ref dv0, .ref dp0, .int nd, .int ns, .int nu])), (dv0, .inr (4, [.ref dv1, .ref dv2, .int sp2]))] sz) := by
  refine x_ofW (own := RVF) (by decide) rfl (fun p e s m below meth c hsz hx hb hr hml hown ht hlk hin hP hK hD hmb hex hU hN hmx => ?_)
  subst hsz
  generalize hAe : va_A [(h0, .inr (5, [.ref x0, .int (nI a), .int lb, .ref g0, .ref cd0, .ref dd0])), (cd0, .inr (1, [.ref v0, .ref p0, .int np, .ref k0])), (v0, .inr (4, [.ref v1, .ref v2, .int sp])), (dd0, .inr (2, [.ref dv0, .ref dp0, .int nd, .int ns, .int nu])), (dv0, .inr (4, [.ref dv1, .ref dv2, .int sp2]))] s.heap.size = A at hD hU hN ⊢
  have hA : ∀ q : Nat, s.heap.size ≤ q → A q := fun q h => by rw [← hAe]; exact Or.inr h
  have hS : va_S A s.heap s.heap [] := va_S.rf
  have hl := lv_entry ([.ref h0]) (n := 5) (Nat.le_of_ble_eq_true rfl)
  rw [lg_entry_eq]
  generalize (lg_sl ([.ref h0]) ++ List.replicate (5 - (lg_sl ([.ref h0])).length) Slot.unset).toArray = ls at hl ⊢
  have hl : lv_has ls 5 [(0, .ref h0)] := hl
  refine lv_aload_n hx hb dVF_apart_0 rfl (lv_at hl 0 rfl) ?_
  refine va_get (D := D) (ci := 5) (v := .ref dd0) hx hb ht inVF hown hK hP 0 rfl rfl 5 (by decide) (ht _ kf_VF_30) (fun _ h9 => h9) rfl dVF_apart_1 ?_
  refine va_get (D := D) (ci := 2) (v := .ref dv0) hx hb ht inDec hown hK hP 3 rfl rfl 0 (by decide) (ht _ kf_VF_107) (fun _ h9 => h9) rfl dVF_apart_4 ?_
  refine lv_astore_n (lv' := [(1, .ref dv0), (0, .ref h0)]) hx hb dVF_apart_7 rfl hl (by decide) rfl (fun ls hl => ?_)
  refine lv_aload_n hx hb dVF_apart_8 rfl (lv_at hl 1 rfl) ?_
  refine va_get (D := D) (ci := 5) (v := .ref cd0) hx hb ht inVF hown hK hP 0 rfl rfl 4 (by decide) (ht _ kf_VF_23) (fun _ h9 => h9) rfl dVF_apart_9 ?_
  refine va_get (D := D) (ci := 1) (v := .ref v0) hx hb ht inCod hown hK hP 1 rfl rfl 0 (by decide) (ht _ kf_VF_111) (fun _ h9 => h9) rfl dVF_apart_12 ?_
  refine lv_astore_n (lv' := [(2, .ref v0), (1, .ref dv0), (0, .ref h0)]) hx hb dVF_apart_15 rfl hl (by decide) rfl (fun ls hl => ?_)
  refine lv_aload_n hx hb dVF_apart_16 rfl (lv_at hl 1 rfl) ?_
  refine va_get (D := D) (ci := 4) (v := .int sp2) hx hb ht inVoi hown hK hP 4 rfl rfl 2 (by decide) (ht _ kf_VF_112) (fun _ h9 => h9) rfl dVF_apart_17 ?_
  refine lv_if_eq (tgt := 30) hx hb dVF_apart_20 (by decide) (fun c1 => ?_) (fun c1 => ?_)
  · have hP := hP.sub (ws' := [(h0, .inr (5, [.ref x0, .int (nI a), .int lb, .ref g0, .ref cd0, .ref dd0])), (cd0, .inr (1, [.ref v0, .ref p0, .int np, .ref k0])), (v0, .inr (4, [.ref v1, .ref v2, .int sp])), (dd0, .inr (2, [.ref dv0, .ref dp0, .int nd, .int ns, .int nu])), (dv0, .inr (4, [.ref dv1, .ref dv2, .int sp2]))]) [0, 1, 2, 3, 4] rfl
    have hD := hD.sub (ws' := [(h0, .inr (5, [.ref x0, .int (nI a), .int lb, .ref g0, .ref cd0, .ref dd0])), (cd0, .inr (1, [.ref v0, .ref p0, .int np, .ref k0])), (v0, .inr (4, [.ref v1, .ref v2, .int sp])), (dd0, .inr (2, [.ref dv0, .ref dp0, .int nd, .int ns, .int nu])), (dv0, .inr (4, [.ref dv1, .ref dv2, .int sp2]))]) [0, 1, 2, 3, 4] (by decide) rfl
    exact e_x hl0 hx hb (hl.1.trans hml.symm) hown ht hlk hmb hmx hex hU hN hK hP hD hS (by decide +kernel) kl_VF_49 kI_IllegalStateException (List.mem_of_getElem? (i := 11) rfl) xa_53 dVF_apart_30 dVF_apart_33 dVF_apart_34 dVF_apart_36 dVF_apart_39 (Nat.le_of_ble_eq_true rfl) (Nat.le_of_ble_eq_true rfl) (Nat.le_of_ble_eq_true rfl) (Nat.le_of_ble_eq_true rfl)
  · refine lv_aload_n hx hb dVF_apart_23 rfl (lv_at hl 0 rfl) ?_
    refine va_get (D := D) (ci := 4) (v := .int sp) hx hb ht inVoi hown hK hP 2 rfl rfl 2 (by decide) (ht _ kf_VF_112) (fun _ h9 => h9) rfl dVF_apart_24 ?_
    refine lv_if_ne (tgt := 40) hx hb dVF_apart_27 (by decide) (fun c2 => ?_) (fun c2 => ?_)
    · exact absurd hs (fun q => q.elim c1 c2)
    · have hP := hP.sub (ws' := [(h0, .inr (5, [.ref x0, .int (nI a), .int lb, .ref g0, .ref cd0, .ref dd0])), (cd0, .inr (1, [.ref v0, .ref p0, .int np, .ref k0])), (v0, .inr (4, [.ref v1, .ref v2, .int sp])), (dd0, .inr (2, [.ref dv0, .ref dp0, .int nd, .int ns, .int nu])), (dv0, .inr (4, [.ref dv1, .ref dv2, .int sp2]))]) [0, 1, 2, 3, 4] rfl
      have hD := hD.sub (ws' := [(h0, .inr (5, [.ref x0, .int (nI a), .int lb, .ref g0, .ref cd0, .ref dd0])), (cd0, .inr (1, [.ref v0, .ref p0, .int np, .ref k0])), (v0, .inr (4, [.ref v1, .ref v2, .int sp])), (dd0, .inr (2, [.ref dv0, .ref dp0, .int nd, .int ns, .int nu])), (dv0, .inr (4, [.ref dv1, .ref dv2, .int sp2]))]) [0, 1, 2, 3, 4] (by decide) rfl
      exact e_x hl0 hx hb (hl.1.trans hml.symm) hown ht hlk hmb hmx hex hU hN hK hP hD hS (by decide +kernel) kl_VF_49 kI_IllegalStateException (List.mem_of_getElem? (i := 11) rfl) xa_53 dVF_apart_30 dVF_apart_33 dVF_apart_34 dVF_apart_36 dVF_apart_39 (Nat.le_of_ble_eq_true rfl) (Nat.le_of_ble_eq_true rfl) (Nat.le_of_ble_eq_true rfl) (Nat.le_of_ble_eq_true rfl)

set_option maxHeartbeats 4000000 in
set_option maxRecDepth 100000 in
theorem x_VF_count_A (l : Launch) (hl0 : l.stackTraces = false) (D : va_G) (cF cI : ClassId) (sz : Nat) (h0 x0 g0 cd0 dd0 : Nat) (a : Nat) (lb : Int32) (k : Int32) (hk : k.toInt < 0 ∨ 6 < k.toInt) : vx_Met l yVF_count (.code yVF_count cVF_count 2 (some .int) :: TB) ({ frames := 6, cells := 1, slots := 6, locals := 90 }) (va_Pc [.ref h0, .int k] (cPreX D cF cI [(h0, .inr (5, [.ref x0, .int (nI a), .int lb, .ref g0, .ref cd0, .ref dd0]))] sz)) (va_Qi (fun _ (_ : Unit) => False) (fun _ _ => True) (va_A [(h0, .inr (5, [.ref x0, .int (nI a), .int lb, .ref g0, .ref cd0, .ref dd0]))] sz)) (vx_X (fun _ : Unit => True) (xB D cF cI (va_A [(h0, .inr (5, [.ref x0, .int (nI a), .int lb, .ref g0, .ref cd0, .ref dd0]))] sz) "java/lang/IllegalArgumentException" [(h0, .inr (5, [.ref x0, .int (nI a), .int lb, .ref g0, .ref cd0, .ref dd0]))]) (va_A [(h0, .inr (5, [.ref x0, .int (nI a), .int lb, .ref g0, .ref cd0, .ref dd0]))] sz)) 1 6 (va_A [(h0, .inr (5, [.ref x0, .int (nI a), .int lb, .ref g0, .ref cd0, .ref dd0]))] sz) := by
  refine x_ofW (own := RVF) (by decide) rfl (fun p e s m below meth c hsz hx hb hr hml hown ht hlk hin hP hK hD hmb hex hU hN hmx => ?_)
  subst hsz
  generalize hAe : va_A [(h0, .inr (5, [.ref x0, .int (nI a), .int lb, .ref g0, .ref cd0, .ref dd0]))] s.heap.size = A at hD hU hN ⊢
  have hA : ∀ q : Nat, s.heap.size ≤ q → A q := fun q h => by rw [← hAe]; exact Or.inr h
  have hS : va_S A s.heap s.heap [] := va_S.rf
  have hl := lv_entry ([.ref h0, .int k]) (n := 2) (Nat.le_of_ble_eq_true rfl)
  rw [lg_entry_eq]
  generalize (lg_sl ([.ref h0, .int k]) ++ List.replicate (2 - (lg_sl ([.ref h0, .int k])).length) Slot.unset).toArray = ls at hl ⊢
  have hl : lv_has ls 2 [(0, .ref h0), (1, .int k)] := hl
  refine lv_iload_n hx hb dVF_count_0 rfl (lv_at hl 1 rfl) ?_
  refine lv_tableOut (tgt := 102) hx hb dVF_count_1 hk (by decide) ?_
  have hP := hP.sub (ws' := [(h0, .inr (5, [.ref x0, .int (nI a), .int lb, .ref g0, .ref cd0, .ref dd0]))]) [0] rfl
  have hD := hD.sub (ws' := [(h0, .inr (5, [.ref x0, .int (nI a), .int lb, .ref g0, .ref cd0, .ref dd0]))]) [0] (by decide) rfl
  exact e_x hl0 hx hb (hl.1.trans hml.symm) hown ht hlk hmb hmx hex hU hN hK hP hD hS (by decide +kernel) kl_VF_38 kI_IllegalArgumentException (List.mem_of_getElem? (i := 12) rfl) xa_42 dVF_count_102 dVF_count_105 dVF_count_106 dVF_count_108 dVF_count_111 (Nat.le_of_ble_eq_true rfl) (Nat.le_of_ble_eq_true rfl) (Nat.le_of_ble_eq_true rfl) (Nat.le_of_ble_eq_true rfl)
