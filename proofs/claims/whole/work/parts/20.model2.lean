set_option maxHeartbeats 4000000 in
set_option maxRecDepth 100000 in
theorem c_Mod_out_D (l : Launch) (D : va_G) (cF cI : ClassId) (sz : Nat) (h0 f1 f2 f3 f4 f5 f6 f7 f8 f9 f10 f11 n1 n2 n3 n4 : Nat) (sm : Int32) (ln : Int32) (tt : Int32) (cm : Int32) (dm : Int32) (si : Int32) (mu : Int32) (th : Int32) (lin : Int32) (oc : Int32) (od : Int32) (yd : Nat → UInt32) (b : Int32) (i : Nat) (hi : i < 16) (hn9 : ¬ m_in (nI i) 0 15 = 0) (hb1 : ¬ b = 0) (ho : ¬ od = 0) (hy9 : ∀ j, fk 143 (yd j)) : Met l yMod_out (.code yMod_out cMod_out 3 (some .double) :: TB) ({ frames := 1, cells := 0, slots := 0, locals := 22 }) (va_Pc [.ref h0, .int b, .int (nI i)] (cPre D cF cI [(h0, .inr (6, [.ref f1, .ref f2, .ref f3, .ref f4, .ref f5, .ref f6, .ref f7, .ref f8, .ref f9, .ref f10, .ref f11, .ref n1, .ref n2, .ref n3, .ref n4, .int sm, .int ln, .int tt, .int cm, .int dm, .int si, .int mu, .int th, .int lin, .int oc, .int od])), (f5, .inl (cF, 16, .inr (.inr (.inl yd))))] sz)) (va_Qd (fun (r : UInt64) (_ : Unit) => r = FP.f2d (yd i)) (cB D cF cI (va_A [(h0, .inr (6, [.ref f1, .ref f2, .ref f3, .ref f4, .ref f5, .ref f6, .ref f7, .ref f8, .ref f9, .ref f10, .ref f11, .ref n1, .ref n2, .ref n3, .ref n4, .int sm, .int ln, .int tt, .int cm, .int dm, .int si, .int mu, .int th, .int lin, .int oc, .int od])), (f5, .inl (cF, 16, .inr (.inr (.inl yd))))] sz) (fun _ : Unit => [(h0, .inr (6, [.ref f1, .ref f2, .ref f3, .ref f4, .ref f5, .ref f6, .ref f7, .ref f8, .ref f9, .ref f10, .ref f11, .ref n1, .ref n2, .ref n3, .ref n4, .int sm, .int ln, .int tt, .int cm, .int dm, .int si, .int mu, .int 0, .int lin, .int oc, .int od])), (f5, .inl (cF, 16, .inr (.inr (.inl yd))))])) (va_A [(h0, .inr (6, [.ref f1, .ref f2, .ref f3, .ref f4, .ref f5, .ref f6, .ref f7, .ref f8, .ref f9, .ref f10, .ref f11, .ref n1, .ref n2, .ref n3, .ref n4, .int sm, .int ln, .int tt, .int cm, .int dm, .int si, .int mu, .int th, .int lin, .int oc, .int od])), (f5, .inl (cF, 16, .inr (.inr (.inl yd))))] sz)) 0 0 (va_A [(h0, .inr (6, [.ref f1, .ref f2, .ref f3, .ref f4, .ref f5, .ref f6, .ref f7, .ref f8, .ref f9, .ref f10, .ref f11, .ref n1, .ref n2, .ref n3, .ref n4, .int sm, .int ln, .int tt, .int cm, .int dm, .int si, .int mu, .int th, .int lin, .int oc, .int od])), (f5, .inl (cF, 16, .inr (.inr (.inl yd))))] sz) := by
  refine c_ofW (own := RMod) (by decide) rfl (fun p e s m below meth c hsz hx hb hr hml hown ht hlk hin hP hK hD hmb => ?_)
  subst hsz
  generalize hAe : va_A [(h0, .inr (6, [.ref f1, .ref f2, .ref f3, .ref f4, .ref f5, .ref f6, .ref f7, .ref f8, .ref f9, .ref f10, .ref f11, .ref n1, .ref n2, .ref n3, .ref n4, .int sm, .int ln, .int tt, .int cm, .int dm, .int si, .int mu, .int th, .int lin, .int oc, .int od])), (f5, .inl (cF, 16, .inr (.inr (.inl yd))))] s.heap.size = A at hD ⊢
  have hA : ∀ q : Nat, s.heap.size ≤ q → A q := fun q h => by rw [← hAe]; exact Or.inr h
  have hS : va_S A s.heap s.heap [] := va_S.rf
  have hl := lv_entry ([.ref h0, .int b, .int (nI i)]) (n := 3) (Nat.le_of_ble_eq_true rfl)
  rw [lg_entry_eq]
  generalize (lg_sl ([.ref h0, .int b, .int (nI i)]) ++ List.replicate (3 - (lg_sl ([.ref h0, .int b, .int (nI i)])).length) Slot.unset).toArray = ls at hl ⊢
  have hl : lv_has ls 3 [(0, .ref h0), (1, .int b), (2, .int (nI i))] := hl
  refine lv_aload_n hx hb dMod_out_0 rfl (lv_at hl 0 rfl) ?_
  refine lv_iload_n hx hb dMod_out_1 rfl (lv_at hl 2 rfl) ?_
  refine lv_iconst (v := 0) hx hb dMod_out_2 (by decide) ?_
  refine lv_bipush (v := 15) hx hb dMod_out_3 (by decide) ?_
  refine q_i (wc := []) (wr := [(h0, .inr (6, [.ref f1, .ref f2, .ref f3, .ref f4, .ref f5, .ref f6, .ref f7, .ref f8, .ref f9, .ref f10, .ref f11, .ref n1, .ref n2, .ref n3, .ref n4, .int sm, .int ln, .int tt, .int cm, .int dm, .int si, .int mu, .int th, .int lin, .int oc, .int od])), (f5, .inl (cF, 16, .inr (.inr (.inl yd))))]) [] [0, 1] hK hP hD hS hA rfl rfl (by decide) (by decide) (va_runS (As := [.int (nI i), .int 0, .int 15]) (rest := [.ref h0]) ⟨hx, hb, hml, hown, ht⟩ (c_Mod_in l D cF cI s.heap.size (nI i) 0 15) (va_cwS 3 ht (g_S km_Mod_141 ks_Mod_in kI_Mod kc_Mod_in) rfl rfl rfl (by decide +kernel) ⟨Nat.le_of_ble_eq_true rfl, Nat.le_of_ble_eq_true rfl⟩) (cPre_S hK hmb (hP.sub (ws' := []) [] rfl) (hD.sub (ws' := []) [] (by decide) rfl)) rfl rfl hl.1 rfl (lv_room (Nat.le_of_ble_eq_true rfl)) dMod_out_5 ⟨Nat.le_of_ble_eq_true rfl, Nat.le_of_ble_eq_true rfl⟩) (fun r1 u2 H locs w3 hP hD hS => ?_)
  subst w3
  have hP : va_P D vwCl [(h0, .inr (6, [.ref f1, .ref f2, .ref f3, .ref f4, .ref f5, .ref f6, .ref f7, .ref f8, .ref f9, .ref f10, .ref f11, .ref n1, .ref n2, .ref n3, .ref n4, .int sm, .int ln, .int tt, .int cm, .int dm, .int si, .int mu, .int th, .int lin, .int oc, .int od])), (f5, .inl (cF, 16, .inr (.inr (.inl yd))))] H := hP
  have hD : va_D A [(h0, .inr (6, [.ref f1, .ref f2, .ref f3, .ref f4, .ref f5, .ref f6, .ref f7, .ref f8, .ref f9, .ref f10, .ref f11, .ref n1, .ref n2, .ref n3, .ref n4, .int sm, .int ln, .int tt, .int cm, .int dm, .int si, .int mu, .int th, .int lin, .int oc, .int od])), (f5, .inl (cF, 16, .inr (.inr (.inl yd))))] := hD
  refine lv_if_eq (tgt := 36) hx hb dMod_out_8 (by decide) (fun c4 => ?_) (fun c4 => ?_)
  · exact absurd c4 hn9
  · refine lv_iload_n hx hb dMod_out_11 rfl (lv_at hl 1 rfl) ?_
    refine lv_if_eq (tgt := 25) hx hb dMod_out_12 (by decide) (fun c5 => ?_) (fun c5 => ?_)
    · exact absurd c5 hb1
    · refine lv_aload_n hx hb dMod_out_15 rfl (lv_at hl 0 rfl) ?_
      refine va_get (D := D) (ci := 6) (v := .int od) hx hb ht inMod hown hK hP 0 rfl rfl 25 (by decide) (ht _ kf_Mod_158) (fun _ h9 => h9) rfl dMod_out_16 ?_
      refine lv_if_eq (tgt := 36) hx hb dMod_out_19 (by decide) (fun c6 => ?_) (fun c6 => ?_)
      · exact absurd c6 ho
      · refine lv_goto (tgt := 32) hx hb dMod_out_22 (by decide) ?_
        refine lv_iconst (v := 0) hx hb dMod_out_32 (by decide) ?_
        refine lv_goto (tgt := 37) hx hb dMod_out_33 (by decide) ?_
        refine va_put (D := D) (ci := 6) (v := .int 0) (ty := .int) hx hb ht inMod tMod tMod_ok nMod hown hK hP hD hS 0 rfl rfl 22 (by decide) (ht _ kf_Mod_56) (fun _ h9 => h9) rfl (by decide +kernel) rfl rfl (Nat.le_of_ble_eq_true rfl) dMod_out_37 (fun H locs hP hD hS => ?_)
        have hP : va_P D vwCl [(h0, .inr (6, [.ref f1, .ref f2, .ref f3, .ref f4, .ref f5, .ref f6, .ref f7, .ref f8, .ref f9, .ref f10, .ref f11, .ref n1, .ref n2, .ref n3, .ref n4, .int sm, .int ln, .int tt, .int cm, .int dm, .int si, .int mu, .int 0, .int lin, .int oc, .int od])), (f5, .inl (cF, 16, .inr (.inr (.inl yd))))] H := hP
        have hD : va_D A [(h0, .inr (6, [.ref f1, .ref f2, .ref f3, .ref f4, .ref f5, .ref f6, .ref f7, .ref f8, .ref f9, .ref f10, .ref f11, .ref n1, .ref n2, .ref n3, .ref n4, .int sm, .int ln, .int tt, .int cm, .int dm, .int si, .int mu, .int 0, .int lin, .int oc, .int od])), (f5, .inl (cF, 16, .inr (.inr (.inl yd))))] := hD
        refine lv_aload_n hx hb dMod_out_40 rfl (lv_at hl 0 rfl) ?_
        refine va_get (D := D) (ci := 6) (v := .int 0) hx hb ht inMod hown hK hP 0 rfl rfl 22 (by decide) (ht _ kf_Mod_56) (fun _ h9 => h9) rfl dMod_out_41 ?_
        refine lv_if_le (tgt := 51) hx hb dMod_out_44 (by decide) (fun _ => ?_) (fun c9 => absurd (by decide) c9)
        refine lv_iload_n hx hb dMod_out_51 rfl (lv_at hl 1 rfl) ?_
        refine lv_if_eq (tgt := 65) hx hb dMod_out_52 (by decide) (fun c8 => ?_) (fun c8 => ?_)
        · exact absurd c8 hb1
        · refine lv_aload_n hx hb dMod_out_55 rfl (lv_at hl 0 rfl) ?_
          refine va_get (D := D) (ci := 6) (v := .ref f5) hx hb ht inMod hown hK hP 0 rfl rfl 4 (by decide) (ht _ kf_Mod_22) (fun _ h9 => h9) rfl dMod_out_56 ?_
          refine lv_iload_n hx hb dMod_out_59 rfl (lv_at hl 2 rfl) ?_
          refine k_fald (j := i) hx hb hK hP 1 0 rfl rfl (vp_in_nI (by omega) (by decide)) (nI_clamp (by omega)) dMod_out_60 ?_
          refine lv_f2d hx hb dMod_out_61 (nd_of (fk_n (hy9 _) (by decide))) ?_
          refine lv_goto (tgt := 72) hx hb dMod_out_62 (by decide) ?_
          have hP := hP.sub (ws' := [(h0, .inr (6, [.ref f1, .ref f2, .ref f3, .ref f4, .ref f5, .ref f6, .ref f7, .ref f8, .ref f9, .ref f10, .ref f11, .ref n1, .ref n2, .ref n3, .ref n4, .int sm, .int ln, .int tt, .int cm, .int dm, .int si, .int mu, .int 0, .int lin, .int oc, .int od])), (f5, .inl (cF, 16, .inr (.inr (.inl yd))))]) [0, 1] rfl
          have hD := hD.sub (ws' := [(h0, .inr (6, [.ref f1, .ref f2, .ref f3, .ref f4, .ref f5, .ref f6, .ref f7, .ref f8, .ref f9, .ref f10, .ref f11, .ref n1, .ref n2, .ref n3, .ref n4, .int sm, .int ln, .int tt, .int cm, .int dm, .int si, .int mu, .int 0, .int lin, .int oc, .int od])), (f5, .inl (cF, 16, .inr (.inr (.inl yd))))]) [0, 1] (by decide) rfl
          exact e_d () hx hb hr hlk hK hP hD hS rfl rfl dMod_out_72

set_option maxHeartbeats 4000000 in
set_option maxRecDepth 100000 in
theorem c_Mod_out_C (l : Launch) (D : va_G) (cF cI : ClassId) (sz : Nat) (h0 f1 f2 f3 f4 f5 f6 f7 f8 f9 f10 f11 n1 n2 n3 n4 : Nat) (sm : Int32) (ln : Int32) (tt : Int32) (cm : Int32) (dm : Int32) (si : Int32) (mu : Int32) (th : Int32) (lin : Int32) (oc : Int32) (od : Int32) (yc : Nat → UInt32) (b : Int32) (i : Nat) (hi : i < 16) (hn9 : ¬ m_in (nI i) 0 15 = 0) (hb1 : b = 0) (ho : ¬ oc = 0) (hy9 : ∀ j, fk 143 (yc j)) : Met l yMod_out (.code yMod_out cMod_out 3 (some .double) :: TB) ({ frames := 1, cells := 0, slots := 0, locals := 22 }) (va_Pc [.ref h0, .int b, .int (nI i)] (cPre D cF cI [(h0, .inr (6, [.ref f1, .ref f2, .ref f3, .ref f4, .ref f5, .ref f6, .ref f7, .ref f8, .ref f9, .ref f10, .ref f11, .ref n1, .ref n2, .ref n3, .ref n4, .int sm, .int ln, .int tt, .int cm, .int dm, .int si, .int mu, .int th, .int lin, .int oc, .int od])), (f4, .inl (cF, 16, .inr (.inr (.inl yc))))] sz)) (va_Qd (fun (r : UInt64) (_ : Unit) => r = FP.f2d (yc i)) (cB D cF cI (va_A [(h0, .inr (6, [.ref f1, .ref f2, .ref f3, .ref f4, .ref f5, .ref f6, .ref f7, .ref f8, .ref f9, .ref f10, .ref f11, .ref n1, .ref n2, .ref n3, .ref n4, .int sm, .int ln, .int tt, .int cm, .int dm, .int si, .int mu, .int th, .int lin, .int oc, .int od])), (f4, .inl (cF, 16, .inr (.inr (.inl yc))))] sz) (fun _ : Unit => [(h0, .inr (6, [.ref f1, .ref f2, .ref f3, .ref f4, .ref f5, .ref f6, .ref f7, .ref f8, .ref f9, .ref f10, .ref f11, .ref n1, .ref n2, .ref n3, .ref n4, .int sm, .int ln, .int tt, .int cm, .int dm, .int si, .int mu, .int 0, .int lin, .int oc, .int od])), (f4, .inl (cF, 16, .inr (.inr (.inl yc))))])) (va_A [(h0, .inr (6, [.ref f1, .ref f2, .ref f3, .ref f4, .ref f5, .ref f6, .ref f7, .ref f8, .ref f9, .ref f10, .ref f11, .ref n1, .ref n2, .ref n3, .ref n4, .int sm, .int ln, .int tt, .int cm, .int dm, .int si, .int mu, .int th, .int lin, .int oc, .int od])), (f4, .inl (cF, 16, .inr (.inr (.inl yc))))] sz)) 0 0 (va_A [(h0, .inr (6, [.ref f1, .ref f2, .ref f3, .ref f4, .ref f5, .ref f6, .ref f7, .ref f8, .ref f9, .ref f10, .ref f11, .ref n1, .ref n2, .ref n3, .ref n4, .int sm, .int ln, .int tt, .int cm, .int dm, .int si, .int mu, .int th, .int lin, .int oc, .int od])), (f4, .inl (cF, 16, .inr (.inr (.inl yc))))] sz) := by
  refine c_ofW (own := RMod) (by decide) rfl (fun p e s m below meth c hsz hx hb hr hml hown ht hlk hin hP hK hD hmb => ?_)
  subst hsz
  generalize hAe : va_A [(h0, .inr (6, [.ref f1, .ref f2, .ref f3, .ref f4, .ref f5, .ref f6, .ref f7, .ref f8, .ref f9, .ref f10, .ref f11, .ref n1, .ref n2, .ref n3, .ref n4, .int sm, .int ln, .int tt, .int cm, .int dm, .int si, .int mu, .int th, .int lin, .int oc, .int od])), (f4, .inl (cF, 16, .inr (.inr (.inl yc))))] s.heap.size = A at hD ⊢
  have hA : ∀ q : Nat, s.heap.size ≤ q → A q := fun q h => by rw [← hAe]; exact Or.inr h
  have hS : va_S A s.heap s.heap [] := va_S.rf
  have hl := lv_entry ([.ref h0, .int b, .int (nI i)]) (n := 3) (Nat.le_of_ble_eq_true rfl)
  rw [lg_entry_eq]
  generalize (lg_sl ([.ref h0, .int b, .int (nI i)]) ++ List.replicate (3 - (lg_sl ([.ref h0, .int b, .int (nI i)])).length) Slot.unset).toArray = ls at hl ⊢
  have hl : lv_has ls 3 [(0, .ref h0), (1, .int b), (2, .int (nI i))] := hl
  refine lv_aload_n hx hb dMod_out_0 rfl (lv_at hl 0 rfl) ?_
  refine lv_iload_n hx hb dMod_out_1 rfl (lv_at hl 2 rfl) ?_
  refine lv_iconst (v := 0) hx hb dMod_out_2 (by decide) ?_
  refine lv_bipush (v := 15) hx hb dMod_out_3 (by decide) ?_
  refine q_i (wc := []) (wr := [(h0, .inr (6, [.ref f1, .ref f2, .ref f3, .ref f4, .ref f5, .ref f6, .ref f7, .ref f8, .ref f9, .ref f10, .ref f11, .ref n1, .ref n2, .ref n3, .ref n4, .int sm, .int ln, .int tt, .int cm, .int dm, .int si, .int mu, .int th, .int lin, .int oc, .int od])), (f4, .inl (cF, 16, .inr (.inr (.inl yc))))]) [] [0, 1] hK hP hD hS hA rfl rfl (by decide) (by decide) (va_runS (As := [.int (nI i), .int 0, .int 15]) (rest := [.ref h0]) ⟨hx, hb, hml, hown, ht⟩ (c_Mod_in l D cF cI s.heap.size (nI i) 0 15) (va_cwS 3 ht (g_S km_Mod_141 ks_Mod_in kI_Mod kc_Mod_in) rfl rfl rfl (by decide +kernel) ⟨Nat.le_of_ble_eq_true rfl, Nat.le_of_ble_eq_true rfl⟩) (cPre_S hK hmb (hP.sub (ws' := []) [] rfl) (hD.sub (ws' := []) [] (by decide) rfl)) rfl rfl hl.1 rfl (lv_room (Nat.le_of_ble_eq_true rfl)) dMod_out_5 ⟨Nat.le_of_ble_eq_true rfl, Nat.le_of_ble_eq_true rfl⟩) (fun r1 u2 H locs w3 hP hD hS => ?_)
  subst w3
  have hP : va_P D vwCl [(h0, .inr (6, [.ref f1, .ref f2, .ref f3, .ref f4, .ref f5, .ref f6, .ref f7, .ref f8, .ref f9, .ref f10, .ref f11, .ref n1, .ref n2, .ref n3, .ref n4, .int sm, .int ln, .int tt, .int cm, .int dm, .int si, .int mu, .int th, .int lin, .int oc, .int od])), (f4, .inl (cF, 16, .inr (.inr (.inl yc))))] H := hP
  have hD : va_D A [(h0, .inr (6, [.ref f1, .ref f2, .ref f3, .ref f4, .ref f5, .ref f6, .ref f7, .ref f8, .ref f9, .ref f10, .ref f11, .ref n1, .ref n2, .ref n3, .ref n4, .int sm, .int ln, .int tt, .int cm, .int dm, .int si, .int mu, .int th, .int lin, .int oc, .int od])), (f4, .inl (cF, 16, .inr (.inr (.inl yc))))] := hD
  refine lv_if_eq (tgt := 36) hx hb dMod_out_8 (by decide) (fun c4 => ?_) (fun c4 => ?_)
  · exact absurd c4 hn9
  · refine lv_iload_n hx hb dMod_out_11 rfl (lv_at hl 1 rfl) ?_
    refine lv_if_eq (tgt := 25) hx hb dMod_out_12 (by decide) (fun c5 => ?_) (fun c5 => ?_)
    · refine lv_aload_n hx hb dMod_out_25 rfl (lv_at hl 0 rfl) ?_
      refine va_get (D := D) (ci := 6) (v := .int oc) hx hb ht inMod hown hK hP 0 rfl rfl 24 (by decide) (ht _ kf_Mod_128) (fun _ h9 => h9) rfl dMod_out_26 ?_
      refine lv_if_eq (tgt := 36) hx hb dMod_out_29 (by decide) (fun c6 => ?_) (fun c6 => ?_)
      · exact absurd c6 ho
      · refine lv_iconst (v := 0) hx hb dMod_out_32 (by decide) ?_
        refine lv_goto (tgt := 37) hx hb dMod_out_33 (by decide) ?_
        refine va_put (D := D) (ci := 6) (v := .int 0) (ty := .int) hx hb ht inMod tMod tMod_ok nMod hown hK hP hD hS 0 rfl rfl 22 (by decide) (ht _ kf_Mod_56) (fun _ h9 => h9) rfl (by decide +kernel) rfl rfl (Nat.le_of_ble_eq_true rfl) dMod_out_37 (fun H locs hP hD hS => ?_)
        have hP : va_P D vwCl [(h0, .inr (6, [.ref f1, .ref f2, .ref f3, .ref f4, .ref f5, .ref f6, .ref f7, .ref f8, .ref f9, .ref f10, .ref f11, .ref n1, .ref n2, .ref n3, .ref n4, .int sm, .int ln, .int tt, .int cm, .int dm, .int si, .int mu, .int 0, .int lin, .int oc, .int od])), (f4, .inl (cF, 16, .inr (.inr (.inl yc))))] H := hP
        have hD : va_D A [(h0, .inr (6, [.ref f1, .ref f2, .ref f3, .ref f4, .ref f5, .ref f6, .ref f7, .ref f8, .ref f9, .ref f10, .ref f11, .ref n1, .ref n2, .ref n3, .ref n4, .int sm, .int ln, .int tt, .int cm, .int dm, .int si, .int mu, .int 0, .int lin, .int oc, .int od])), (f4, .inl (cF, 16, .inr (.inr (.inl yc))))] := hD
        refine lv_aload_n hx hb dMod_out_40 rfl (lv_at hl 0 rfl) ?_
        refine va_get (D := D) (ci := 6) (v := .int 0) hx hb ht inMod hown hK hP 0 rfl rfl 22 (by decide) (ht _ kf_Mod_56) (fun _ h9 => h9) rfl dMod_out_41 ?_
        refine lv_if_le (tgt := 51) hx hb dMod_out_44 (by decide) (fun _ => ?_) (fun c9 => absurd (by decide) c9)
        refine lv_iload_n hx hb dMod_out_51 rfl (lv_at hl 1 rfl) ?_
        refine lv_if_eq (tgt := 65) hx hb dMod_out_52 (by decide) (fun c8 => ?_) (fun c8 => ?_)
        · refine lv_aload_n hx hb dMod_out_65 rfl (lv_at hl 0 rfl) ?_
          refine va_get (D := D) (ci := 6) (v := .ref f4) hx hb ht inMod hown hK hP 0 rfl rfl 3 (by decide) (ht _ kf_Mod_19) (fun _ h9 => h9) rfl dMod_out_66 ?_
          refine lv_iload_n hx hb dMod_out_69 rfl (lv_at hl 2 rfl) ?_
          refine k_fald (j := i) hx hb hK hP 1 0 rfl rfl (vp_in_nI (by omega) (by decide)) (nI_clamp (by omega)) dMod_out_70 ?_
          refine lv_f2d hx hb dMod_out_71 (nd_of (fk_n (hy9 _) (by decide))) ?_
          have hP := hP.sub (ws' := [(h0, .inr (6, [.ref f1, .ref f2, .ref f3, .ref f4, .ref f5, .ref f6, .ref f7, .ref f8, .ref f9, .ref f10, .ref f11, .ref n1, .ref n2, .ref n3, .ref n4, .int sm, .int ln, .int tt, .int cm, .int dm, .int si, .int mu, .int 0, .int lin, .int oc, .int od])), (f4, .inl (cF, 16, .inr (.inr (.inl yc))))]) [0, 1] rfl
          have hD := hD.sub (ws' := [(h0, .inr (6, [.ref f1, .ref f2, .ref f3, .ref f4, .ref f5, .ref f6, .ref f7, .ref f8, .ref f9, .ref f10, .ref f11, .ref n1, .ref n2, .ref n3, .ref n4, .int sm, .int ln, .int tt, .int cm, .int dm, .int si, .int mu, .int 0, .int lin, .int oc, .int od])), (f4, .inl (cF, 16, .inr (.inr (.inl yc))))]) [0, 1] (by decide) rfl
          exact e_d () hx hb hr hlk hK hP hD hS rfl rfl dMod_out_72
        · exact absurd hb1 c8
    · exact absurd hb1 c5

set_option maxHeartbeats 4000000 in
set_option maxRecDepth 100000 in
theorem c_Mod_out_X (l : Launch) (D : va_G) (cF cI : ClassId) (sz : Nat) (h0 f1 f2 f3 f4 f5 f6 f7 f8 f9 f10 f11 n1 n2 n3 n4 : Nat) (sm : Int32) (ln : Int32) (tt : Int32) (cm : Int32) (dm : Int32) (si : Int32) (mu : Int32) (th : Int32) (lin : Int32) (oc : Int32) (od : Int32) (b : Int32) (n : Int32) (hn9 : m_in n 0 15 = 0) : Met l yMod_out (.code yMod_out cMod_out 3 (some .double) :: TB) ({ frames := 1, cells := 0, slots := 0, locals := 22 }) (va_Pc [.ref h0, .int b, .int n] (cPre D cF cI [(h0, .inr (6, [.ref f1, .ref f2, .ref f3, .ref f4, .ref f5, .ref f6, .ref f7, .ref f8, .ref f9, .ref f10, .ref f11, .ref n1, .ref n2, .ref n3, .ref n4, .int sm, .int ln, .int tt, .int cm, .int dm, .int si, .int mu, .int th, .int lin, .int oc, .int od]))] sz)) (va_Qd (fun (r : UInt64) (_ : Unit) => r = FP.dconst0) (cB D cF cI (va_A [(h0, .inr (6, [.ref f1, .ref f2, .ref f3, .ref f4, .ref f5, .ref f6, .ref f7, .ref f8, .ref f9, .ref f10, .ref f11, .ref n1, .ref n2, .ref n3, .ref n4, .int sm, .int ln, .int tt, .int cm, .int dm, .int si, .int mu, .int th, .int lin, .int oc, .int od]))] sz) (fun _ : Unit => [(h0, .inr (6, [.ref f1, .ref f2, .ref f3, .ref f4, .ref f5, .ref f6, .ref f7, .ref f8, .ref f9, .ref f10, .ref f11, .ref n1, .ref n2, .ref n3, .ref n4, .int sm, .int ln, .int tt, .int cm, .int dm, .int si, .int mu, .int 1, .int lin, .int oc, .int od]))])) (va_A [(h0, .inr (6, [.ref f1, .ref f2, .ref f3, .ref f4, .ref f5, .ref f6, .ref f7, .ref f8, .ref f9, .ref f10, .ref f11, .ref n1, .ref n2, .ref n3, .ref n4, .int sm, .int ln, .int tt, .int cm, .int dm, .int si, .int mu, .int th, .int lin, .int oc, .int od]))] sz)) 0 0 (va_A [(h0, .inr (6, [.ref f1, .ref f2, .ref f3, .ref f4, .ref f5, .ref f6, .ref f7, .ref f8, .ref f9, .ref f10, .ref f11, .ref n1, .ref n2, .ref n3, .ref n4, .int sm, .int ln, .int tt, .int cm, .int dm, .int si, .int mu, .int th, .int lin, .int oc, .int od]))] sz) := by
  refine c_ofW (own := RMod) (by decide) rfl (fun p e s m below meth c hsz hx hb hr hml hown ht hlk hin hP hK hD hmb => ?_)
  subst hsz
  generalize hAe : va_A [(h0, .inr (6, [.ref f1, .ref f2, .ref f3, .ref f4, .ref f5, .ref f6, .ref f7, .ref f8, .ref f9, .ref f10, .ref f11, .ref n1, .ref n2, .ref n3, .ref n4, .int sm, .int ln, .int tt, .int cm, .int dm, .int si, .int mu, .int th, .int lin, .int oc, .int od]))] s.heap.size = A at hD ⊢
  have hA : ∀ q : Nat, s.heap.size ≤ q → A q := fun q h => by rw [← hAe]; exact Or.inr h
  have hS : va_S A s.heap s.heap [] := va_S.rf
  have hl := lv_entry ([.ref h0, .int b, .int n]) (n := 3) (Nat.le_of_ble_eq_true rfl)
  rw [lg_entry_eq]
  generalize (lg_sl ([.ref h0, .int b, .int n]) ++ List.replicate (3 - (lg_sl ([.ref h0, .int b, .int n])).length) Slot.unset).toArray = ls at hl ⊢
  have hl : lv_has ls 3 [(0, .ref h0), (1, .int b), (2, .int n)] := hl
  refine lv_aload_n hx hb dMod_out_0 rfl (lv_at hl 0 rfl) ?_
  refine lv_iload_n hx hb dMod_out_1 rfl (lv_at hl 2 rfl) ?_
  refine lv_iconst (v := 0) hx hb dMod_out_2 (by decide) ?_
  refine lv_bipush (v := 15) hx hb dMod_out_3 (by decide) ?_
  refine q_i (wc := []) (wr := [(h0, .inr (6, [.ref f1, .ref f2, .ref f3, .ref f4, .ref f5, .ref f6, .ref f7, .ref f8, .ref f9, .ref f10, .ref f11, .ref n1, .ref n2, .ref n3, .ref n4, .int sm, .int ln, .int tt, .int cm, .int dm, .int si, .int mu, .int th, .int lin, .int oc, .int od]))]) [] [0] hK hP hD hS hA rfl rfl (by decide) (by decide) (va_runS (As := [.int n, .int 0, .int 15]) (rest := [.ref h0]) ⟨hx, hb, hml, hown, ht⟩ (c_Mod_in l D cF cI s.heap.size n 0 15) (va_cwS 3 ht (g_S km_Mod_141 ks_Mod_in kI_Mod kc_Mod_in) rfl rfl rfl (by decide +kernel) ⟨Nat.le_of_ble_eq_true rfl, Nat.le_of_ble_eq_true rfl⟩) (cPre_S hK hmb (hP.sub (ws' := []) [] rfl) (hD.sub (ws' := []) [] (by decide) rfl)) rfl rfl hl.1 rfl (lv_room (Nat.le_of_ble_eq_true rfl)) dMod_out_5 ⟨Nat.le_of_ble_eq_true rfl, Nat.le_of_ble_eq_true rfl⟩) (fun r1 u2 H locs w3 hP hD hS => ?_)
  subst w3
  have hP : va_P D vwCl [(h0, .inr (6, [.ref f1, .ref f2, .ref f3, .ref f4, .ref f5, .ref f6, .ref f7, .ref f8, .ref f9, .ref f10, .ref f11, .ref n1, .ref n2, .ref n3, .ref n4, .int sm, .int ln, .int tt, .int cm, .int dm, .int si, .int mu, .int th, .int lin, .int oc, .int od]))] H := hP
  have hD : va_D A [(h0, .inr (6, [.ref f1, .ref f2, .ref f3, .ref f4, .ref f5, .ref f6, .ref f7, .ref f8, .ref f9, .ref f10, .ref f11, .ref n1, .ref n2, .ref n3, .ref n4, .int sm, .int ln, .int tt, .int cm, .int dm, .int si, .int mu, .int th, .int lin, .int oc, .int od]))] := hD
  refine lv_if_eq (tgt := 36) hx hb dMod_out_8 (by decide) (fun c4 => ?_) (fun c4 => ?_)
  · refine lv_iconst (v := 1) hx hb dMod_out_36 (by decide) ?_
    refine va_put (D := D) (ci := 6) (v := .int 1) (ty := .int) hx hb ht inMod tMod tMod_ok nMod hown hK hP hD hS 0 rfl rfl 22 (by decide) (ht _ kf_Mod_56) (fun _ h9 => h9) rfl (by decide +kernel) rfl rfl (Nat.le_of_ble_eq_true rfl) dMod_out_37 (fun H locs hP hD hS => ?_)
    have hP : va_P D vwCl [(h0, .inr (6, [.ref f1, .ref f2, .ref f3, .ref f4, .ref f5, .ref f6, .ref f7, .ref f8, .ref f9, .ref f10, .ref f11, .ref n1, .ref n2, .ref n3, .ref n4, .int sm, .int ln, .int tt, .int cm, .int dm, .int si, .int mu, .int 1, .int lin, .int oc, .int od]))] H := hP
    have hD : va_D A [(h0, .inr (6, [.ref f1, .ref f2, .ref f3, .ref f4, .ref f5, .ref f6, .ref f7, .ref f8, .ref f9, .ref f10, .ref f11, .ref n1, .ref n2, .ref n3, .ref n4, .int sm, .int ln, .int tt, .int cm, .int dm, .int si, .int mu, .int 1, .int lin, .int oc, .int od]))] := hD
    refine lv_aload_n hx hb dMod_out_40 rfl (lv_at hl 0 rfl) ?_
    refine va_get (D := D) (ci := 6) (v := .int 1) hx hb ht inMod hown hK hP 0 rfl rfl 22 (by decide) (ht _ kf_Mod_56) (fun _ h9 => h9) rfl dMod_out_41 ?_
    refine lv_if_le (tgt := 51) hx hb dMod_out_44 (by decide) (fun c9 => absurd c9 (by decide)) (fun _ => ?_)
    refine lv_dconst0 hx hb dMod_out_47 ?_
    refine lv_goto (tgt := 72) hx hb dMod_out_48 (by decide) ?_
    have hP := hP.sub (ws' := [(h0, .inr (6, [.ref f1, .ref f2, .ref f3, .ref f4, .ref f5, .ref f6, .ref f7, .ref f8, .ref f9, .ref f10, .ref f11, .ref n1, .ref n2, .ref n3, .ref n4, .int sm, .int ln, .int tt, .int cm, .int dm, .int si, .int mu, .int 1, .int lin, .int oc, .int od]))]) [0] rfl
    have hD := hD.sub (ws' := [(h0, .inr (6, [.ref f1, .ref f2, .ref f3, .ref f4, .ref f5, .ref f6, .ref f7, .ref f8, .ref f9, .ref f10, .ref f11, .ref n1, .ref n2, .ref n3, .ref n4, .int sm, .int ln, .int tt, .int cm, .int dm, .int si, .int mu, .int 1, .int lin, .int oc, .int od]))]) [0] (by decide) rfl
    exact e_d () hx hb hr hlk hK hP hD hS rfl rfl dMod_out_72
  · exact absurd hn9 c4

set_option maxHeartbeats 4000000 in
set_option maxRecDepth 100000 in
theorem c_Mod_out_Y (l : Launch) (D : va_G) (cF cI : ClassId) (sz : Nat) (h0 f1 f2 f3 f4 f5 f6 f7 f8 f9 f10 f11 n1 n2 n3 n4 : Nat) (sm : Int32) (ln : Int32) (tt : Int32) (cm : Int32) (dm : Int32) (si : Int32) (mu : Int32) (th : Int32) (lin : Int32) (oc : Int32) (od : Int32) (b : Int32) (n : Int32) (hn9 : ¬ m_in n 0 15 = 0) (hb1 : ¬ b = 0) (ho : od = 0) : Met l yMod_out (.code yMod_out cMod_out 3 (some .double) :: TB) ({ frames := 1, cells := 0, slots := 0, locals := 22 }) (va_Pc [.ref h0, .int b, .int n] (cPre D cF cI [(h0, .inr (6, [.ref f1, .ref f2, .ref f3, .ref f4, .ref f5, .ref f6, .ref f7, .ref f8, .ref f9, .ref f10, .ref f11, .ref n1, .ref n2, .ref n3, .ref n4, .int sm, .int ln, .int tt, .int cm, .int dm, .int si, .int mu, .int th, .int lin, .int oc, .int od]))] sz)) (va_Qd (fun (r : UInt64) (_ : Unit) => r = FP.dconst0) (cB D cF cI (va_A [(h0, .inr (6, [.ref f1, .ref f2, .ref f3, .ref f4, .ref f5, .ref f6, .ref f7, .ref f8, .ref f9, .ref f10, .ref f11, .ref n1, .ref n2, .ref n3, .ref n4, .int sm, .int ln, .int tt, .int cm, .int dm, .int si, .int mu, .int th, .int lin, .int oc, .int od]))] sz) (fun _ : Unit => [(h0, .inr (6, [.ref f1, .ref f2, .ref f3, .ref f4, .ref f5, .ref f6, .ref f7, .ref f8, .ref f9, .ref f10, .ref f11, .ref n1, .ref n2, .ref n3, .ref n4, .int sm, .int ln, .int tt, .int cm, .int dm, .int si, .int mu, .int 1, .int lin, .int oc, .int od]))])) (va_A [(h0, .inr (6, [.ref f1, .ref f2, .ref f3, .ref f4, .ref f5, .ref f6, .ref f7, .ref f8, .ref f9, .ref f10, .ref f11, .ref n1, .ref n2, .ref n3, .ref n4, .int sm, .int ln, .int tt, .int cm, .int dm, .int si, .int mu, .int th, .int lin, .int oc, .int od]))] sz)) 0 0 (va_A [(h0, .inr (6, [.ref f1, .ref f2, .ref f3, .ref f4, .ref f5, .ref f6, .ref f7, .ref f8, .ref f9, .ref f10, .ref f11, .ref n1, .ref n2, .ref n3, .ref n4, .int sm, .int ln, .int tt, .int cm, .int dm, .int si, .int mu, .int th, .int lin, .int oc, .int od]))] sz) := by
  refine c_ofW (own := RMod) (by decide) rfl (fun p e s m below meth c hsz hx hb hr hml hown ht hlk hin hP hK hD hmb => ?_)
  subst hsz
  generalize hAe : va_A [(h0, .inr (6, [.ref f1, .ref f2, .ref f3, .ref f4, .ref f5, .ref f6, .ref f7, .ref f8, .ref f9, .ref f10, .ref f11, .ref n1, .ref n2, .ref n3, .ref n4, .int sm, .int ln, .int tt, .int cm, .int dm, .int si, .int mu, .int th, .int lin, .int oc, .int od]))] s.heap.size = A at hD ⊢
  have hA : ∀ q : Nat, s.heap.size ≤ q → A q := fun q h => by rw [← hAe]; exact Or.inr h
  have hS : va_S A s.heap s.heap [] := va_S.rf
  have hl := lv_entry ([.ref h0, .int b, .int n]) (n := 3) (Nat.le_of_ble_eq_true rfl)
  rw [lg_entry_eq]
  generalize (lg_sl ([.ref h0, .int b, .int n]) ++ List.replicate (3 - (lg_sl ([.ref h0, .int b, .int n])).length) Slot.unset).toArray = ls at hl ⊢
  have hl : lv_has ls 3 [(0, .ref h0), (1, .int b), (2, .int n)] := hl
  refine lv_aload_n hx hb dMod_out_0 rfl (lv_at hl 0 rfl) ?_
  refine lv_iload_n hx hb dMod_out_1 rfl (lv_at hl 2 rfl) ?_
  refine lv_iconst (v := 0) hx hb dMod_out_2 (by decide) ?_
  refine lv_bipush (v := 15) hx hb dMod_out_3 (by decide) ?_
  refine q_i (wc := []) (wr := [(h0, .inr (6, [.ref f1, .ref f2, .ref f3, .ref f4, .ref f5, .ref f6, .ref f7, .ref f8, .ref f9, .ref f10, .ref f11, .ref n1, .ref n2, .ref n3, .ref n4, .int sm, .int ln, .int tt, .int cm, .int dm, .int si, .int mu, .int th, .int lin, .int oc, .int od]))]) [] [0] hK hP hD hS hA rfl rfl (by decide) (by decide) (va_runS (As := [.int n, .int 0, .int 15]) (rest := [.ref h0]) ⟨hx, hb, hml, hown, ht⟩ (c_Mod_in l D cF cI s.heap.size n 0 15) (va_cwS 3 ht (g_S km_Mod_141 ks_Mod_in kI_Mod kc_Mod_in) rfl rfl rfl (by decide +kernel) ⟨Nat.le_of_ble_eq_true rfl, Nat.le_of_ble_eq_true rfl⟩) (cPre_S hK hmb (hP.sub (ws' := []) [] rfl) (hD.sub (ws' := []) [] (by decide) rfl)) rfl rfl hl.1 rfl (lv_room (Nat.le_of_ble_eq_true rfl)) dMod_out_5 ⟨Nat.le_of_ble_eq_true rfl, Nat.le_of_ble_eq_true rfl⟩) (fun r1 u2 H locs w3 hP hD hS => ?_)
  subst w3
  have hP : va_P D vwCl [(h0, .inr (6, [.ref f1, .ref f2, .ref f3, .ref f4, .ref f5, .ref f6, .ref f7, .ref f8, .ref f9, .ref f10, .ref f11, .ref n1, .ref n2, .ref n3, .ref n4, .int sm, .int ln, .int tt, .int cm, .int dm, .int si, .int mu, .int th, .int lin, .int oc, .int od]))] H := hP
  have hD : va_D A [(h0, .inr (6, [.ref f1, .ref f2, .ref f3, .ref f4, .ref f5, .ref f6, .ref f7, .ref f8, .ref f9, .ref f10, .ref f11, .ref n1, .ref n2, .ref n3, .ref n4, .int sm, .int ln, .int tt, .int cm, .int dm, .int si, .int mu, .int th, .int lin, .int oc, .int od]))] := hD
  refine lv_if_eq (tgt := 36) hx hb dMod_out_8 (by decide) (fun c4 => ?_) (fun c4 => ?_)
  · exact absurd c4 hn9
  · refine lv_iload_n hx hb dMod_out_11 rfl (lv_at hl 1 rfl) ?_
    refine lv_if_eq (tgt := 25) hx hb dMod_out_12 (by decide) (fun c5 => ?_) (fun c5 => ?_)
    · exact absurd c5 hb1
    · refine lv_aload_n hx hb dMod_out_15 rfl (lv_at hl 0 rfl) ?_
      refine va_get (D := D) (ci := 6) (v := .int od) hx hb ht inMod hown hK hP 0 rfl rfl 25 (by decide) (ht _ kf_Mod_158) (fun _ h9 => h9) rfl dMod_out_16 ?_
      refine lv_if_eq (tgt := 36) hx hb dMod_out_19 (by decide) (fun c6 => ?_) (fun c6 => ?_)
      · refine lv_iconst (v := 1) hx hb dMod_out_36 (by decide) ?_
        refine va_put (D := D) (ci := 6) (v := .int 1) (ty := .int) hx hb ht inMod tMod tMod_ok nMod hown hK hP hD hS 0 rfl rfl 22 (by decide) (ht _ kf_Mod_56) (fun _ h9 => h9) rfl (by decide +kernel) rfl rfl (Nat.le_of_ble_eq_true rfl) dMod_out_37 (fun H locs hP hD hS => ?_)
        have hP : va_P D vwCl [(h0, .inr (6, [.ref f1, .ref f2, .ref f3, .ref f4, .ref f5, .ref f6, .ref f7, .ref f8, .ref f9, .ref f10, .ref f11, .ref n1, .ref n2, .ref n3, .ref n4, .int sm, .int ln, .int tt, .int cm, .int dm, .int si, .int mu, .int 1, .int lin, .int oc, .int od]))] H := hP
        have hD : va_D A [(h0, .inr (6, [.ref f1, .ref f2, .ref f3, .ref f4, .ref f5, .ref f6, .ref f7, .ref f8, .ref f9, .ref f10, .ref f11, .ref n1, .ref n2, .ref n3, .ref n4, .int sm, .int ln, .int tt, .int cm, .int dm, .int si, .int mu, .int 1, .int lin, .int oc, .int od]))] := hD
        refine lv_aload_n hx hb dMod_out_40 rfl (lv_at hl 0 rfl) ?_
        refine va_get (D := D) (ci := 6) (v := .int 1) hx hb ht inMod hown hK hP 0 rfl rfl 22 (by decide) (ht _ kf_Mod_56) (fun _ h9 => h9) rfl dMod_out_41 ?_
        refine lv_if_le (tgt := 51) hx hb dMod_out_44 (by decide) (fun c9 => absurd c9 (by decide)) (fun _ => ?_)
        refine lv_dconst0 hx hb dMod_out_47 ?_
        refine lv_goto (tgt := 72) hx hb dMod_out_48 (by decide) ?_
        have hP := hP.sub (ws' := [(h0, .inr (6, [.ref f1, .ref f2, .ref f3, .ref f4, .ref f5, .ref f6, .ref f7, .ref f8, .ref f9, .ref f10, .ref f11, .ref n1, .ref n2, .ref n3, .ref n4, .int sm, .int ln, .int tt, .int cm, .int dm, .int si, .int mu, .int 1, .int lin, .int oc, .int od]))]) [0] rfl
        have hD := hD.sub (ws' := [(h0, .inr (6, [.ref f1, .ref f2, .ref f3, .ref f4, .ref f5, .ref f6, .ref f7, .ref f8, .ref f9, .ref f10, .ref f11, .ref n1, .ref n2, .ref n3, .ref n4, .int sm, .int ln, .int tt, .int cm, .int dm, .int si, .int mu, .int 1, .int lin, .int oc, .int od]))]) [0] (by decide) rfl
        exact e_d () hx hb hr hlk hK hP hD hS rfl rfl dMod_out_72
      · exact absurd ho c6

set_option maxHeartbeats 4000000 in
set_option maxRecDepth 100000 in
theorem c_Mod_out_Z (l : Launch) (D : va_G) (cF cI : ClassId) (sz : Nat) (h0 f1 f2 f3 f4 f5 f6 f7 f8 f9 f10 f11 n1 n2 n3 n4 : Nat) (sm : Int32) (ln : Int32) (tt : Int32) (cm : Int32) (dm : Int32) (si : Int32) (mu : Int32) (th : Int32) (lin : Int32) (oc : Int32) (od : Int32) (b : Int32) (n : Int32) (hn9 : ¬ m_in n 0 15 = 0) (hb1 : b = 0) (ho : oc = 0) : Met l yMod_out (.code yMod_out cMod_out 3 (some .double) :: TB) ({ frames := 1, cells := 0, slots := 0, locals := 22 }) (va_Pc [.ref h0, .int b, .int n] (cPre D cF cI [(h0, .inr (6, [.ref f1, .ref f2, .ref f3, .ref f4, .ref f5, .ref f6, .ref f7, .ref f8, .ref f9, .ref f10, .ref f11, .ref n1, .ref n2, .ref n3, .ref n4, .int sm, .int ln, .int tt, .int cm, .int dm, .int si, .int mu, .int th, .int lin, .int oc, .int od]))] sz)) (va_Qd (fun (r : UInt64) (_ : Unit) => r = FP.dconst0) (cB D cF cI (va_A [(h0, .inr (6, [.ref f1, .ref f2, .ref f3, .ref f4, .ref f5, .ref f6, .ref f7, .ref f8, .ref f9, .ref f10, .ref f11, .ref n1, .ref n2, .ref n3, .ref n4, .int sm, .int ln, .int tt, .int cm, .int dm, .int si, .int mu, .int th, .int lin, .int oc, .int od]))] sz) (fun _ : Unit => [(h0, .inr (6, [.ref f1, .ref f2, .ref f3, .ref f4, .ref f5, .ref f6, .ref f7, .ref f8, .ref f9, .ref f10, .ref f11, .ref n1, .ref n2, .ref n3, .ref n4, .int sm, .int ln, .int tt, .int cm, .int dm, .int si, .int mu, .int 1, .int lin, .int oc, .int od]))])) (va_A [(h0, .inr (6, [.ref f1, .ref f2, .ref f3, .ref f4, .ref f5, .ref f6, .ref f7, .ref f8, .ref f9, .ref f10, .ref f11, .ref n1, .ref n2, .ref n3, .ref n4, .int sm, .int ln, .int tt, .int cm, .int dm, .int si, .int mu, .int th, .int lin, .int oc, .int od]))] sz)) 0 0 (va_A [(h0, .inr (6, [.ref f1, .ref f2, .ref f3, .ref f4, .ref f5, .ref f6, .ref f7, .ref f8, .ref f9, .ref f10, .ref f11, .ref n1, .ref n2, .ref n3, .ref n4, .int sm, .int ln, .int tt, .int cm, .int dm, .int si, .int mu, .int th, .int lin, .int oc, .int od]))] sz) := by
  refine c_ofW (own := RMod) (by decide) rfl (fun p e s m below meth c hsz hx hb hr hml hown ht hlk hin hP hK hD hmb => ?_)
  subst hsz
  generalize hAe : va_A [(h0, .inr (6, [.ref f1, .ref f2, .ref f3, .ref f4, .ref f5, .ref f6, .ref f7, .ref f8, .ref f9, .ref f10, .ref f11, .ref n1, .ref n2, .ref n3, .ref n4, .int sm, .int ln, .int tt, .int cm, .int dm, .int si, .int mu, .int th, .int lin, .int oc, .int od]))] s.heap.size = A at hD ⊢
  have hA : ∀ q : Nat, s.heap.size ≤ q → A q := fun q h => by rw [← hAe]; exact Or.inr h
  have hS : va_S A s.heap s.heap [] := va_S.rf
  have hl := lv_entry ([.ref h0, .int b, .int n]) (n := 3) (Nat.le_of_ble_eq_true rfl)
  rw [lg_entry_eq]
  generalize (lg_sl ([.ref h0, .int b, .int n]) ++ List.replicate (3 - (lg_sl ([.ref h0, .int b, .int n])).length) Slot.unset).toArray = ls at hl ⊢
  have hl : lv_has ls 3 [(0, .ref h0), (1, .int b), (2, .int n)] := hl
  refine lv_aload_n hx hb dMod_out_0 rfl (lv_at hl 0 rfl) ?_
  refine lv_iload_n hx hb dMod_out_1 rfl (lv_at hl 2 rfl) ?_
  refine lv_iconst (v := 0) hx hb dMod_out_2 (by decide) ?_
  refine lv_bipush (v := 15) hx hb dMod_out_3 (by decide) ?_
  refine q_i (wc := []) (wr := [(h0, .inr (6, [.ref f1, .ref f2, .ref f3, .ref f4, .ref f5, .ref f6, .ref f7, .ref f8, .ref f9, .ref f10, .ref f11, .ref n1, .ref n2, .ref n3, .ref n4, .int sm, .int ln, .int tt, .int cm, .int dm, .int si, .int mu, .int th, .int lin, .int oc, .int od]))]) [] [0] hK hP hD hS hA rfl rfl (by decide) (by decide) (va_runS (As := [.int n, .int 0, .int 15]) (rest := [.ref h0]) ⟨hx, hb, hml, hown, ht⟩ (c_Mod_in l D cF cI s.heap.size n 0 15) (va_cwS 3 ht (g_S km_Mod_141 ks_Mod_in kI_Mod kc_Mod_in) rfl rfl rfl (by decide +kernel) ⟨Nat.le_of_ble_eq_true rfl, Nat.le_of_ble_eq_true rfl⟩) (cPre_S hK hmb (hP.sub (ws' := []) [] rfl) (hD.sub (ws' := []) [] (by decide) rfl)) rfl rfl hl.1 rfl (lv_room (Nat.le_of_ble_eq_true rfl)) dMod_out_5 ⟨Nat.le_of_ble_eq_true rfl, Nat.le_of_ble_eq_true rfl⟩) (fun r1 u2 H locs w3 hP hD hS => ?_)
  subst w3
  have hP : va_P D vwCl [(h0, .inr (6, [.ref f1, .ref f2, .ref f3, .ref f4, .ref f5, .ref f6, .ref f7, .ref f8, .ref f9, .ref f10, .ref f11, .ref n1, .ref n2, .ref n3, .ref n4, .int sm, .int ln, .int tt, .int cm, .int dm, .int si, .int mu, .int th, .int lin, .int oc, .int od]))] H := hP
  have hD : va_D A [(h0, .inr (6, [.ref f1, .ref f2, .ref f3, .ref f4, .ref f5, .ref f6, .ref f7, .ref f8, .ref f9, .ref f10, .ref f11, .ref n1, .ref n2, .ref n3, .ref n4, .int sm, .int ln, .int tt, .int cm, .int dm, .int si, .int mu, .int th, .int lin, .int oc, .int od]))] := hD
  refine lv_if_eq (tgt := 36) hx hb dMod_out_8 (by decide) (fun c4 => ?_) (fun c4 => ?_)
  · exact absurd c4 hn9
  · refine lv_iload_n hx hb dMod_out_11 rfl (lv_at hl 1 rfl) ?_
    refine lv_if_eq (tgt := 25) hx hb dMod_out_12 (by decide) (fun c5 => ?_) (fun c5 => ?_)
    · refine lv_aload_n hx hb dMod_out_25 rfl (lv_at hl 0 rfl) ?_
      refine va_get (D := D) (ci := 6) (v := .int oc) hx hb ht inMod hown hK hP 0 rfl rfl 24 (by decide) (ht _ kf_Mod_128) (fun _ h9 => h9) rfl dMod_out_26 ?_
      refine lv_if_eq (tgt := 36) hx hb dMod_out_29 (by decide) (fun c6 => ?_) (fun c6 => ?_)
      · refine lv_iconst (v := 1) hx hb dMod_out_36 (by decide) ?_
        refine va_put (D := D) (ci := 6) (v := .int 1) (ty := .int) hx hb ht inMod tMod tMod_ok nMod hown hK hP hD hS 0 rfl rfl 22 (by decide) (ht _ kf_Mod_56) (fun _ h9 => h9) rfl (by decide +kernel) rfl rfl (Nat.le_of_ble_eq_true rfl) dMod_out_37 (fun H locs hP hD hS => ?_)
        have hP : va_P D vwCl [(h0, .inr (6, [.ref f1, .ref f2, .ref f3, .ref f4, .ref f5, .ref f6, .ref f7, .ref f8, .ref f9, .ref f10, .ref f11, .ref n1, .ref n2, .ref n3, .ref n4, .int sm, .int ln, .int tt, .int cm, .int dm, .int si, .int mu, .int 1, .int lin, .int oc, .int od]))] H := hP
        have hD : va_D A [(h0, .inr (6, [.ref f1, .ref f2, .ref f3, .ref f4, .ref f5, .ref f6, .ref f7, .ref f8, .ref f9, .ref f10, .ref f11, .ref n1, .ref n2, .ref n3, .ref n4, .int sm, .int ln, .int tt, .int cm, .int dm, .int si, .int mu, .int 1, .int lin, .int oc, .int od]))] := hD
        refine lv_aload_n hx hb dMod_out_40 rfl (lv_at hl 0 rfl) ?_
        refine va_get (D := D) (ci := 6) (v := .int 1) hx hb ht inMod hown hK hP 0 rfl rfl 22 (by decide) (ht _ kf_Mod_56) (fun _ h9 => h9) rfl dMod_out_41 ?_
        refine lv_if_le (tgt := 51) hx hb dMod_out_44 (by decide) (fun c9 => absurd c9 (by decide)) (fun _ => ?_)
        refine lv_dconst0 hx hb dMod_out_47 ?_
        refine lv_goto (tgt := 72) hx hb dMod_out_48 (by decide) ?_
        have hP := hP.sub (ws' := [(h0, .inr (6, [.ref f1, .ref f2, .ref f3, .ref f4, .ref f5, .ref f6, .ref f7, .ref f8, .ref f9, .ref f10, .ref f11, .ref n1, .ref n2, .ref n3, .ref n4, .int sm, .int ln, .int tt, .int cm, .int dm, .int si, .int mu, .int 1, .int lin, .int oc, .int od]))]) [0] rfl
        have hD := hD.sub (ws' := [(h0, .inr (6, [.ref f1, .ref f2, .ref f3, .ref f4, .ref f5, .ref f6, .ref f7, .ref f8, .ref f9, .ref f10, .ref f11, .ref n1, .ref n2, .ref n3, .ref n4, .int sm, .int ln, .int tt, .int cm, .int dm, .int si, .int mu, .int 1, .int lin, .int oc, .int od]))]) [0] (by decide) rfl
        exact e_d () hx hb hr hlk hK hP hD hS rfl rfl dMod_out_72
      · exact absurd ho c6
    · exact absurd hb1 c5

set_option maxHeartbeats 4000000 in
set_option maxRecDepth 100000 in
theorem c_Mod_code_0 (l : Launch) (D : va_G) (cF cI : ClassId) (sz : Nat) (h0 f1 f2 f3 f4 f5 f6 f7 f8 f9 f10 f11 n1 n2 n3 n4 : Nat) (sm : Int32) (ln : Int32) (tt : Int32) (cm : Int32) (dm : Int32) (si : Int32) (mu : Int32) (th : Int32) (lin : Int32) (oc : Int32) (od : Int32) (td : Nat → Int32) : Met l yMod_code (.code yMod_code cMod_code 2 (some .int) :: TB) ({ frames := 1, cells := 0, slots := 0, locals := 22 }) (va_Pc [.ref h0, .int 0] (cPre D cF cI [(h0, .inr (6, [.ref f1, .ref f2, .ref f3, .ref f4, .ref f5, .ref f6, .ref f7, .ref f8, .ref f9, .ref f10, .ref f11, .ref n1, .ref n2, .ref n3, .ref n4, .int sm, .int ln, .int tt, .int cm, .int dm, .int si, .int mu, .int th, .int lin, .int oc, .int od])), (n4, .inl (cI, 7, .inl td))] sz)) (va_Qi (fun (r : Int32) (_ : Unit) => r = td 0) (cB D cF cI (va_A [(h0, .inr (6, [.ref f1, .ref f2, .ref f3, .ref f4, .ref f5, .ref f6, .ref f7, .ref f8, .ref f9, .ref f10, .ref f11, .ref n1, .ref n2, .ref n3, .ref n4, .int sm, .int ln, .int tt, .int cm, .int dm, .int si, .int mu, .int th, .int lin, .int oc, .int od])), (n4, .inl (cI, 7, .inl td))] sz) (fun _ : Unit => [(h0, .inr (6, [.ref f1, .ref f2, .ref f3, .ref f4, .ref f5, .ref f6, .ref f7, .ref f8, .ref f9, .ref f10, .ref f11, .ref n1, .ref n2, .ref n3, .ref n4, .int sm, .int ln, .int tt, .int cm, .int dm, .int si, .int mu, .int 0, .int lin, .int oc, .int od])), (n4, .inl (cI, 7, .inl td))])) (va_A [(h0, .inr (6, [.ref f1, .ref f2, .ref f3, .ref f4, .ref f5, .ref f6, .ref f7, .ref f8, .ref f9, .ref f10, .ref f11, .ref n1, .ref n2, .ref n3, .ref n4, .int sm, .int ln, .int tt, .int cm, .int dm, .int si, .int mu, .int th, .int lin, .int oc, .int od])), (n4, .inl (cI, 7, .inl td))] sz)) 0 0 (va_A [(h0, .inr (6, [.ref f1, .ref f2, .ref f3, .ref f4, .ref f5, .ref f6, .ref f7, .ref f8, .ref f9, .ref f10, .ref f11, .ref n1, .ref n2, .ref n3, .ref n4, .int sm, .int ln, .int tt, .int cm, .int dm, .int si, .int mu, .int th, .int lin, .int oc, .int od])), (n4, .inl (cI, 7, .inl td))] sz) := by
  refine c_ofW (own := RMod) (by decide) rfl (fun p e s m below meth c hsz hx hb hr hml hown ht hlk hin hP hK hD hmb => ?_)
  subst hsz
  generalize hAe : va_A [(h0, .inr (6, [.ref f1, .ref f2, .ref f3, .ref f4, .ref f5, .ref f6, .ref f7, .ref f8, .ref f9, .ref f10, .ref f11, .ref n1, .ref n2, .ref n3, .ref n4, .int sm, .int ln, .int tt, .int cm, .int dm, .int si, .int mu, .int th, .int lin, .int oc, .int od])), (n4, .inl (cI, 7, .inl td))] s.heap.size = A at hD ⊢
  have hA : ∀ q : Nat, s.heap.size ≤ q → A q := fun q h => by rw [← hAe]; exact Or.inr h
  have hS : va_S A s.heap s.heap [] := va_S.rf
  have hl := lv_entry ([.ref h0, .int 0]) (n := 2) (Nat.le_of_ble_eq_true rfl)
  rw [lg_entry_eq]
  generalize (lg_sl ([.ref h0, .int 0]) ++ List.replicate (2 - (lg_sl ([.ref h0, .int 0])).length) Slot.unset).toArray = ls at hl ⊢
  have hl : lv_has ls 2 [(0, .ref h0), (1, .int 0)] := hl
  refine lv_iload_n hx hb dMod_code_0 rfl (lv_at hl 1 rfl) ?_
  refine lv_iconst (v := 0) hx hb dMod_code_1 (by decide) ?_
  refine lv_bipush (v := 6) hx hb dMod_code_2 (by decide) ?_
  refine q_i (wc := []) (wr := [(h0, .inr (6, [.ref f1, .ref f2, .ref f3, .ref f4, .ref f5, .ref f6, .ref f7, .ref f8, .ref f9, .ref f10, .ref f11, .ref n1, .ref n2, .ref n3, .ref n4, .int sm, .int ln, .int tt, .int cm, .int dm, .int si, .int mu, .int th, .int lin, .int oc, .int od])), (n4, .inl (cI, 7, .inl td))]) [] [0, 1] hK hP hD hS hA rfl rfl (by decide) (by decide) (va_runS (As := [.int 0, .int 0, .int 6]) (rest := []) ⟨hx, hb, hml, hown, ht⟩ (c_Mod_in l D cF cI s.heap.size 0 0 6) (va_cwS 3 ht (g_S km_Mod_141 ks_Mod_in kI_Mod kc_Mod_in) rfl rfl rfl (by decide +kernel) ⟨Nat.le_of_ble_eq_true rfl, Nat.le_of_ble_eq_true rfl⟩) (cPre_S hK hmb (hP.sub (ws' := []) [] rfl) (hD.sub (ws' := []) [] (by decide) rfl)) rfl rfl hl.1 rfl (lv_room (Nat.le_of_ble_eq_true rfl)) dMod_code_4 ⟨Nat.le_of_ble_eq_true rfl, Nat.le_of_ble_eq_true rfl⟩) (fun r1 u2 H locs w3 hP hD hS => ?_)
  subst w3
  have hP : va_P D vwCl [(h0, .inr (6, [.ref f1, .ref f2, .ref f3, .ref f4, .ref f5, .ref f6, .ref f7, .ref f8, .ref f9, .ref f10, .ref f11, .ref n1, .ref n2, .ref n3, .ref n4, .int sm, .int ln, .int tt, .int cm, .int dm, .int si, .int mu, .int th, .int lin, .int oc, .int od])), (n4, .inl (cI, 7, .inl td))] H := hP
  have hD : va_D A [(h0, .inr (6, [.ref f1, .ref f2, .ref f3, .ref f4, .ref f5, .ref f6, .ref f7, .ref f8, .ref f9, .ref f10, .ref f11, .ref n1, .ref n2, .ref n3, .ref n4, .int sm, .int ln, .int tt, .int cm, .int dm, .int si, .int mu, .int th, .int lin, .int oc, .int od])), (n4, .inl (cI, 7, .inl td))] := hD
  refine lv_if_ne (tgt := 16) hx hb dMod_code_7 (by decide) (fun c4 => ?_) (fun c4 => ?_)
  · refine lv_aload_n hx hb dMod_code_16 rfl (lv_at hl 0 rfl) ?_
    refine lv_iconst (v := 0) hx hb dMod_code_17 (by decide) ?_
    refine va_put (D := D) (ci := 6) (v := .int 0) (ty := .int) hx hb ht inMod tMod tMod_ok nMod hown hK hP hD hS 0 rfl rfl 22 (by decide) (ht _ kf_Mod_56) (fun _ h9 => h9) rfl (by decide +kernel) rfl rfl (Nat.le_of_ble_eq_true rfl) dMod_code_18 (fun H locs hP hD hS => ?_)
    have hP : va_P D vwCl [(h0, .inr (6, [.ref f1, .ref f2, .ref f3, .ref f4, .ref f5, .ref f6, .ref f7, .ref f8, .ref f9, .ref f10, .ref f11, .ref n1, .ref n2, .ref n3, .ref n4, .int sm, .int ln, .int tt, .int cm, .int dm, .int si, .int mu, .int 0, .int lin, .int oc, .int od])), (n4, .inl (cI, 7, .inl td))] H := hP
    have hD : va_D A [(h0, .inr (6, [.ref f1, .ref f2, .ref f3, .ref f4, .ref f5, .ref f6, .ref f7, .ref f8, .ref f9, .ref f10, .ref f11, .ref n1, .ref n2, .ref n3, .ref n4, .int sm, .int ln, .int tt, .int cm, .int dm, .int si, .int mu, .int 0, .int lin, .int oc, .int od])), (n4, .inl (cI, 7, .inl td))] := hD
    refine lv_aload_n hx hb dMod_code_21 rfl (lv_at hl 0 rfl) ?_
    refine va_get (D := D) (ci := 6) (v := .ref n4) hx hb ht inMod hown hK hP 0 rfl rfl 14 (by decide) (ht _ kf_Mod_53) (fun _ h9 => h9) rfl dMod_code_22 ?_
    refine lv_iload_n hx hb dMod_code_25 rfl (lv_at hl 1 rfl) ?_
    refine k_iald (j := 0) hx hb hK hP 1 1 rfl rfl (by unfold vp_in; decide) rfl dMod_code_26 ?_
    have hP := hP.sub (ws' := [(h0, .inr (6, [.ref f1, .ref f2, .ref f3, .ref f4, .ref f5, .ref f6, .ref f7, .ref f8, .ref f9, .ref f10, .ref f11, .ref n1, .ref n2, .ref n3, .ref n4, .int sm, .int ln, .int tt, .int cm, .int dm, .int si, .int mu, .int 0, .int lin, .int oc, .int od])), (n4, .inl (cI, 7, .inl td))]) [0, 1] rfl
    have hD := hD.sub (ws' := [(h0, .inr (6, [.ref f1, .ref f2, .ref f3, .ref f4, .ref f5, .ref f6, .ref f7, .ref f8, .ref f9, .ref f10, .ref f11, .ref n1, .ref n2, .ref n3, .ref n4, .int sm, .int ln, .int tt, .int cm, .int dm, .int si, .int mu, .int 0, .int lin, .int oc, .int od])), (n4, .inl (cI, 7, .inl td))]) [0, 1] (by decide) rfl
    exact e_i () hx hb hr hlk hK hP hD hS rfl rfl dMod_code_27
  · exact absurd c4 (by decide)

set_option maxHeartbeats 4000000 in
set_option maxRecDepth 100000 in
theorem c_Mod_code_1 (l : Launch) (D : va_G) (cF cI : ClassId) (sz : Nat) (h0 f1 f2 f3 f4 f5 f6 f7 f8 f9 f10 f11 n1 n2 n3 n4 : Nat) (sm : Int32) (ln : Int32) (tt : Int32) (cm : Int32) (dm : Int32) (si : Int32) (mu : Int32) (th : Int32) (lin : Int32) (oc : Int32) (od : Int32) (td : Nat → Int32) : Met l yMod_code (.code yMod_code cMod_code 2 (some .int) :: TB) ({ frames := 1, cells := 0, slots := 0, locals := 22 }) (va_Pc [.ref h0, .int 1] (cPre D cF cI [(h0, .inr (6, [.ref f1, .ref f2, .ref f3, .ref f4, .ref f5, .ref f6, .ref f7, .ref f8, .ref f9, .ref f10, .ref f11, .ref n1, .ref n2, .ref n3, .ref n4, .int sm, .int ln, .int tt, .int cm, .int dm, .int si, .int mu, .int th, .int lin, .int oc, .int od])), (n4, .inl (cI, 7, .inl td))] sz)) (va_Qi (fun (r : Int32) (_ : Unit) => r = td 1) (cB D cF cI (va_A [(h0, .inr (6, [.ref f1, .ref f2, .ref f3, .ref f4, .ref f5, .ref f6, .ref f7, .ref f8, .ref f9, .ref f10, .ref f11, .ref n1, .ref n2, .ref n3, .ref n4, .int sm, .int ln, .int tt, .int cm, .int dm, .int si, .int mu, .int th, .int lin, .int oc, .int od])), (n4, .inl (cI, 7, .inl td))] sz) (fun _ : Unit => [(h0, .inr (6, [.ref f1, .ref f2, .ref f3, .ref f4, .ref f5, .ref f6, .ref f7, .ref f8, .ref f9, .ref f10, .ref f11, .ref n1, .ref n2, .ref n3, .ref n4, .int sm, .int ln, .int tt, .int cm, .int dm, .int si, .int mu, .int 0, .int lin, .int oc, .int od])), (n4, .inl (cI, 7, .inl td))])) (va_A [(h0, .inr (6, [.ref f1, .ref f2, .ref f3, .ref f4, .ref f5, .ref f6, .ref f7, .ref f8, .ref f9, .ref f10, .ref f11, .ref n1, .ref n2, .ref n3, .ref n4, .int sm, .int ln, .int tt, .int cm, .int dm, .int si, .int mu, .int th, .int lin, .int oc, .int od])), (n4, .inl (cI, 7, .inl td))] sz)) 0 0 (va_A [(h0, .inr (6, [.ref f1, .ref f2, .ref f3, .ref f4, .ref f5, .ref f6, .ref f7, .ref f8, .ref f9, .ref f10, .ref f11, .ref n1, .ref n2, .ref n3, .ref n4, .int sm, .int ln, .int tt, .int cm, .int dm, .int si, .int mu, .int th, .int lin, .int oc, .int od])), (n4, .inl (cI, 7, .inl td))] sz) := by
  refine c_ofW (own := RMod) (by decide) rfl (fun p e s m below meth c hsz hx hb hr hml hown ht hlk hin hP hK hD hmb => ?_)
  subst hsz
  generalize hAe : va_A [(h0, .inr (6, [.ref f1, .ref f2, .ref f3, .ref f4, .ref f5, .ref f6, .ref f7, .ref f8, .ref f9, .ref f10, .ref f11, .ref n1, .ref n2, .ref n3, .ref n4, .int sm, .int ln, .int tt, .int cm, .int dm, .int si, .int mu, .int th, .int lin, .int oc, .int od])), (n4, .inl (cI, 7, .inl td))] s.heap.size = A at hD ⊢
  have hA : ∀ q : Nat, s.heap.size ≤ q → A q := fun q h => by rw [← hAe]; exact Or.inr h
  have hS : va_S A s.heap s.heap [] := va_S.rf
  have hl := lv_entry ([.ref h0, .int 1]) (n := 2) (Nat.le_of_ble_eq_true rfl)
  rw [lg_entry_eq]
  generalize (lg_sl ([.ref h0, .int 1]) ++ List.replicate (2 - (lg_sl ([.ref h0, .int 1])).length) Slot.unset).toArray = ls at hl ⊢
  have hl : lv_has ls 2 [(0, .ref h0), (1, .int 1)] := hl
  refine lv_iload_n hx hb dMod_code_0 rfl (lv_at hl 1 rfl) ?_
  refine lv_iconst (v := 0) hx hb dMod_code_1 (by decide) ?_
  refine lv_bipush (v := 6) hx hb dMod_code_2 (by decide) ?_
  refine q_i (wc := []) (wr := [(h0, .inr (6, [.ref f1, .ref f2, .ref f3, .ref f4, .ref f5, .ref f6, .ref f7, .ref f8, .ref f9, .ref f10, .ref f11, .ref n1, .ref n2, .ref n3, .ref n4, .int sm, .int ln, .int tt, .int cm, .int dm, .int si, .int mu, .int th, .int lin, .int oc, .int od])), (n4, .inl (cI, 7, .inl td))]) [] [0, 1] hK hP hD hS hA rfl rfl (by decide) (by decide) (va_runS (As := [.int 1, .int 0, .int 6]) (rest := []) ⟨hx, hb, hml, hown, ht⟩ (c_Mod_in l D cF cI s.heap.size 1 0 6) (va_cwS 3 ht (g_S km_Mod_141 ks_Mod_in kI_Mod kc_Mod_in) rfl rfl rfl (by decide +kernel) ⟨Nat.le_of_ble_eq_true rfl, Nat.le_of_ble_eq_true rfl⟩) (cPre_S hK hmb (hP.sub (ws' := []) [] rfl) (hD.sub (ws' := []) [] (by decide) rfl)) rfl rfl hl.1 rfl (lv_room (Nat.le_of_ble_eq_true rfl)) dMod_code_4 ⟨Nat.le_of_ble_eq_true rfl, Nat.le_of_ble_eq_true rfl⟩) (fun r1 u2 H locs w3 hP hD hS => ?_)
  subst w3
  have hP : va_P D vwCl [(h0, .inr (6, [.ref f1, .ref f2, .ref f3, .ref f4, .ref f5, .ref f6, .ref f7, .ref f8, .ref f9, .ref f10, .ref f11, .ref n1, .ref n2, .ref n3, .ref n4, .int sm, .int ln, .int tt, .int cm, .int dm, .int si, .int mu, .int th, .int lin, .int oc, .int od])), (n4, .inl (cI, 7, .inl td))] H := hP
  have hD : va_D A [(h0, .inr (6, [.ref f1, .ref f2, .ref f3, .ref f4, .ref f5, .ref f6, .ref f7, .ref f8, .ref f9, .ref f10, .ref f11, .ref n1, .ref n2, .ref n3, .ref n4, .int sm, .int ln, .int tt, .int cm, .int dm, .int si, .int mu, .int th, .int lin, .int oc, .int od])), (n4, .inl (cI, 7, .inl td))] := hD
  refine lv_if_ne (tgt := 16) hx hb dMod_code_7 (by decide) (fun c4 => ?_) (fun c4 => ?_)
  · refine lv_aload_n hx hb dMod_code_16 rfl (lv_at hl 0 rfl) ?_
    refine lv_iconst (v := 0) hx hb dMod_code_17 (by decide) ?_
    refine va_put (D := D) (ci := 6) (v := .int 0) (ty := .int) hx hb ht inMod tMod tMod_ok nMod hown hK hP hD hS 0 rfl rfl 22 (by decide) (ht _ kf_Mod_56) (fun _ h9 => h9) rfl (by decide +kernel) rfl rfl (Nat.le_of_ble_eq_true rfl) dMod_code_18 (fun H locs hP hD hS => ?_)
    have hP : va_P D vwCl [(h0, .inr (6, [.ref f1, .ref f2, .ref f3, .ref f4, .ref f5, .ref f6, .ref f7, .ref f8, .ref f9, .ref f10, .ref f11, .ref n1, .ref n2, .ref n3, .ref n4, .int sm, .int ln, .int tt, .int cm, .int dm, .int si, .int mu, .int 0, .int lin, .int oc, .int od])), (n4, .inl (cI, 7, .inl td))] H := hP
    have hD : va_D A [(h0, .inr (6, [.ref f1, .ref f2, .ref f3, .ref f4, .ref f5, .ref f6, .ref f7, .ref f8, .ref f9, .ref f10, .ref f11, .ref n1, .ref n2, .ref n3, .ref n4, .int sm, .int ln, .int tt, .int cm, .int dm, .int si, .int mu, .int 0, .int lin, .int oc, .int od])), (n4, .inl (cI, 7, .inl td))] := hD
    refine lv_aload_n hx hb dMod_code_21 rfl (lv_at hl 0 rfl) ?_
    refine va_get (D := D) (ci := 6) (v := .ref n4) hx hb ht inMod hown hK hP 0 rfl rfl 14 (by decide) (ht _ kf_Mod_53) (fun _ h9 => h9) rfl dMod_code_22 ?_
    refine lv_iload_n hx hb dMod_code_25 rfl (lv_at hl 1 rfl) ?_
    refine k_iald (j := 1) hx hb hK hP 1 1 rfl rfl (by unfold vp_in; decide) rfl dMod_code_26 ?_
    have hP := hP.sub (ws' := [(h0, .inr (6, [.ref f1, .ref f2, .ref f3, .ref f4, .ref f5, .ref f6, .ref f7, .ref f8, .ref f9, .ref f10, .ref f11, .ref n1, .ref n2, .ref n3, .ref n4, .int sm, .int ln, .int tt, .int cm, .int dm, .int si, .int mu, .int 0, .int lin, .int oc, .int od])), (n4, .inl (cI, 7, .inl td))]) [0, 1] rfl
    have hD := hD.sub (ws' := [(h0, .inr (6, [.ref f1, .ref f2, .ref f3, .ref f4, .ref f5, .ref f6, .ref f7, .ref f8, .ref f9, .ref f10, .ref f11, .ref n1, .ref n2, .ref n3, .ref n4, .int sm, .int ln, .int tt, .int cm, .int dm, .int si, .int mu, .int 0, .int lin, .int oc, .int od])), (n4, .inl (cI, 7, .inl td))]) [0, 1] (by decide) rfl
    exact e_i () hx hb hr hlk hK hP hD hS rfl rfl dMod_code_27
  · exact absurd c4 (by decide)

set_option maxHeartbeats 4000000 in
set_option maxRecDepth 100000 in
theorem c_Mod_code_2 (l : Launch) (D : va_G) (cF cI : ClassId) (sz : Nat) (h0 f1 f2 f3 f4 f5 f6 f7 f8 f9 f10 f11 n1 n2 n3 n4 : Nat) (sm : Int32) (ln : Int32) (tt : Int32) (cm : Int32) (dm : Int32) (si : Int32) (mu : Int32) (th : Int32) (lin : Int32) (oc : Int32) (od : Int32) (td : Nat → Int32) : Met l yMod_code (.code yMod_code cMod_code 2 (some .int) :: TB) ({ frames := 1, cells := 0, slots := 0, locals := 22 }) (va_Pc [.ref h0, .int 2] (cPre D cF cI [(h0, .inr (6, [.ref f1, .ref f2, .ref f3, .ref f4, .ref f5, .ref f6, .ref f7, .ref f8, .ref f9, .ref f10, .ref f11, .ref n1, .ref n2, .ref n3, .ref n4, .int sm, .int ln, .int tt, .int cm, .int dm, .int si, .int mu, .int th, .int lin, .int oc, .int od])), (n4, .inl (cI, 7, .inl td))] sz)) (va_Qi (fun (r : Int32) (_ : Unit) => r = td 2) (cB D cF cI (va_A [(h0, .inr (6, [.ref f1, .ref f2, .ref f3, .ref f4, .ref f5, .ref f6, .ref f7, .ref f8, .ref f9, .ref f10, .ref f11, .ref n1, .ref n2, .ref n3, .ref n4, .int sm, .int ln, .int tt, .int cm, .int dm, .int si, .int mu, .int th, .int lin, .int oc, .int od])), (n4, .inl (cI, 7, .inl td))] sz) (fun _ : Unit => [(h0, .inr (6, [.ref f1, .ref f2, .ref f3, .ref f4, .ref f5, .ref f6, .ref f7, .ref f8, .ref f9, .ref f10, .ref f11, .ref n1, .ref n2, .ref n3, .ref n4, .int sm, .int ln, .int tt, .int cm, .int dm, .int si, .int mu, .int 0, .int lin, .int oc, .int od])), (n4, .inl (cI, 7, .inl td))])) (va_A [(h0, .inr (6, [.ref f1, .ref f2, .ref f3, .ref f4, .ref f5, .ref f6, .ref f7, .ref f8, .ref f9, .ref f10, .ref f11, .ref n1, .ref n2, .ref n3, .ref n4, .int sm, .int ln, .int tt, .int cm, .int dm, .int si, .int mu, .int th, .int lin, .int oc, .int od])), (n4, .inl (cI, 7, .inl td))] sz)) 0 0 (va_A [(h0, .inr (6, [.ref f1, .ref f2, .ref f3, .ref f4, .ref f5, .ref f6, .ref f7, .ref f8, .ref f9, .ref f10, .ref f11, .ref n1, .ref n2, .ref n3, .ref n4, .int sm, .int ln, .int tt, .int cm, .int dm, .int si, .int mu, .int th, .int lin, .int oc, .int od])), (n4, .inl (cI, 7, .inl td))] sz) := by
  refine c_ofW (own := RMod) (by decide) rfl (fun p e s m below meth c hsz hx hb hr hml hown ht hlk hin hP hK hD hmb => ?_)
  subst hsz
  generalize hAe : va_A [(h0, .inr (6, [.ref f1, .ref f2, .ref f3, .ref f4, .ref f5, .ref f6, .ref f7, .ref f8, .ref f9, .ref f10, .ref f11, .ref n1, .ref n2, .ref n3, .ref n4, .int sm, .int ln, .int tt, .int cm, .int dm, .int si, .int mu, .int th, .int lin, .int oc, .int od])), (n4, .inl (cI, 7, .inl td))] s.heap.size = A at hD ⊢
  have hA : ∀ q : Nat, s.heap.size ≤ q → A q := fun q h => by rw [← hAe]; exact Or.inr h
  have hS : va_S A s.heap s.heap [] := va_S.rf
  have hl := lv_entry ([.ref h0, .int 2]) (n := 2) (Nat.le_of_ble_eq_true rfl)
  rw [lg_entry_eq]
  generalize (lg_sl ([.ref h0, .int 2]) ++ List.replicate (2 - (lg_sl ([.ref h0, .int 2])).length) Slot.unset).toArray = ls at hl ⊢
  have hl : lv_has ls 2 [(0, .ref h0), (1, .int 2)] := hl
  refine lv_iload_n hx hb dMod_code_0 rfl (lv_at hl 1 rfl) ?_
  refine lv_iconst (v := 0) hx hb dMod_code_1 (by decide) ?_
  refine lv_bipush (v := 6) hx hb dMod_code_2 (by decide) ?_
  refine q_i (wc := []) (wr := [(h0, .inr (6, [.ref f1, .ref f2, .ref f3, .ref f4, .ref f5, .ref f6, .ref f7, .ref f8, .ref f9, .ref f10, .ref f11, .ref n1, .ref n2, .ref n3, .ref n4, .int sm, .int ln, .int tt, .int cm, .int dm, .int si, .int mu, .int th, .int lin, .int oc, .int od])), (n4, .inl (cI, 7, .inl td))]) [] [0, 1] hK hP hD hS hA rfl rfl (by decide) (by decide) (va_runS (As := [.int 2, .int 0, .int 6]) (rest := []) ⟨hx, hb, hml, hown, ht⟩ (c_Mod_in l D cF cI s.heap.size 2 0 6) (va_cwS 3 ht (g_S km_Mod_141 ks_Mod_in kI_Mod kc_Mod_in) rfl rfl rfl (by decide +kernel) ⟨Nat.le_of_ble_eq_true rfl, Nat.le_of_ble_eq_true rfl⟩) (cPre_S hK hmb (hP.sub (ws' := []) [] rfl) (hD.sub (ws' := []) [] (by decide) rfl)) rfl rfl hl.1 rfl (lv_room (Nat.le_of_ble_eq_true rfl)) dMod_code_4 ⟨Nat.le_of_ble_eq_true rfl, Nat.le_of_ble_eq_true rfl⟩) (fun r1 u2 H locs w3 hP hD hS => ?_)
  subst w3
  have hP : va_P D vwCl [(h0, .inr (6, [.ref f1, .ref f2, .ref f3, .ref f4, .ref f5, .ref f6, .ref f7, .ref f8, .ref f9, .ref f10, .ref f11, .ref n1, .ref n2, .ref n3, .ref n4, .int sm, .int ln, .int tt, .int cm, .int dm, .int si, .int mu, .int th, .int lin, .int oc, .int od])), (n4, .inl (cI, 7, .inl td))] H := hP
  have hD : va_D A [(h0, .inr (6, [.ref f1, .ref f2, .ref f3, .ref f4, .ref f5, .ref f6, .ref f7, .ref f8, .ref f9, .ref f10, .ref f11, .ref n1, .ref n2, .ref n3, .ref n4, .int sm, .int ln, .int tt, .int cm, .int dm, .int si, .int mu, .int th, .int lin, .int oc, .int od])), (n4, .inl (cI, 7, .inl td))] := hD
  refine lv_if_ne (tgt := 16) hx hb dMod_code_7 (by decide) (fun c4 => ?_) (fun c4 => ?_)
  · refine lv_aload_n hx hb dMod_code_16 rfl (lv_at hl 0 rfl) ?_
    refine lv_iconst (v := 0) hx hb dMod_code_17 (by decide) ?_
    refine va_put (D := D) (ci := 6) (v := .int 0) (ty := .int) hx hb ht inMod tMod tMod_ok nMod hown hK hP hD hS 0 rfl rfl 22 (by decide) (ht _ kf_Mod_56) (fun _ h9 => h9) rfl (by decide +kernel) rfl rfl (Nat.le_of_ble_eq_true rfl) dMod_code_18 (fun H locs hP hD hS => ?_)
    have hP : va_P D vwCl [(h0, .inr (6, [.ref f1, .ref f2, .ref f3, .ref f4, .ref f5, .ref f6, .ref f7, .ref f8, .ref f9, .ref f10, .ref f11, .ref n1, .ref n2, .ref n3, .ref n4, .int sm, .int ln, .int tt, .int cm, .int dm, .int si, .int mu, .int 0, .int lin, .int oc, .int od])), (n4, .inl (cI, 7, .inl td))] H := hP
    have hD : va_D A [(h0, .inr (6, [.ref f1, .ref f2, .ref f3, .ref f4, .ref f5, .ref f6, .ref f7, .ref f8, .ref f9, .ref f10, .ref f11, .ref n1, .ref n2, .ref n3, .ref n4, .int sm, .int ln, .int tt, .int cm, .int dm, .int si, .int mu, .int 0, .int lin, .int oc, .int od])), (n4, .inl (cI, 7, .inl td))] := hD
    refine lv_aload_n hx hb dMod_code_21 rfl (lv_at hl 0 rfl) ?_
    refine va_get (D := D) (ci := 6) (v := .ref n4) hx hb ht inMod hown hK hP 0 rfl rfl 14 (by decide) (ht _ kf_Mod_53) (fun _ h9 => h9) rfl dMod_code_22 ?_
    refine lv_iload_n hx hb dMod_code_25 rfl (lv_at hl 1 rfl) ?_
    refine k_iald (j := 2) hx hb hK hP 1 1 rfl rfl (by unfold vp_in; decide) rfl dMod_code_26 ?_
    have hP := hP.sub (ws' := [(h0, .inr (6, [.ref f1, .ref f2, .ref f3, .ref f4, .ref f5, .ref f6, .ref f7, .ref f8, .ref f9, .ref f10, .ref f11, .ref n1, .ref n2, .ref n3, .ref n4, .int sm, .int ln, .int tt, .int cm, .int dm, .int si, .int mu, .int 0, .int lin, .int oc, .int od])), (n4, .inl (cI, 7, .inl td))]) [0, 1] rfl
    have hD := hD.sub (ws' := [(h0, .inr (6, [.ref f1, .ref f2, .ref f3, .ref f4, .ref f5, .ref f6, .ref f7, .ref f8, .ref f9, .ref f10, .ref f11, .ref n1, .ref n2, .ref n3, .ref n4, .int sm, .int ln, .int tt, .int cm, .int dm, .int si, .int mu, .int 0, .int lin, .int oc, .int od])), (n4, .inl (cI, 7, .inl td))]) [0, 1] (by decide) rfl
    exact e_i () hx hb hr hlk hK hP hD hS rfl rfl dMod_code_27
  · exact absurd c4 (by decide)

set_option maxHeartbeats 4000000 in
set_option maxRecDepth 100000 in
theorem c_Mod_code_3 (l : Launch) (D : va_G) (cF cI : ClassId) (sz : Nat) (h0 f1 f2 f3 f4 f5 f6 f7 f8 f9 f10 f11 n1 n2 n3 n4 : Nat) (sm : Int32) (ln : Int32) (tt : Int32) (cm : Int32) (dm : Int32) (si : Int32) (mu : Int32) (th : Int32) (lin : Int32) (oc : Int32) (od : Int32) (td : Nat → Int32) : Met l yMod_code (.code yMod_code cMod_code 2 (some .int) :: TB) ({ frames := 1, cells := 0, slots := 0, locals := 22 }) (va_Pc [.ref h0, .int 3] (cPre D cF cI [(h0, .inr (6, [.ref f1, .ref f2, .ref f3, .ref f4, .ref f5, .ref f6, .ref f7, .ref f8, .ref f9, .ref f10, .ref f11, .ref n1, .ref n2, .ref n3, .ref n4, .int sm, .int ln, .int tt, .int cm, .int dm, .int si, .int mu, .int th, .int lin, .int oc, .int od])), (n4, .inl (cI, 7, .inl td))] sz)) (va_Qi (fun (r : Int32) (_ : Unit) => r = td 3) (cB D cF cI (va_A [(h0, .inr (6, [.ref f1, .ref f2, .ref f3, .ref f4, .ref f5, .ref f6, .ref f7, .ref f8, .ref f9, .ref f10, .ref f11, .ref n1, .ref n2, .ref n3, .ref n4, .int sm, .int ln, .int tt, .int cm, .int dm, .int si, .int mu, .int th, .int lin, .int oc, .int od])), (n4, .inl (cI, 7, .inl td))] sz) (fun _ : Unit => [(h0, .inr (6, [.ref f1, .ref f2, .ref f3, .ref f4, .ref f5, .ref f6, .ref f7, .ref f8, .ref f9, .ref f10, .ref f11, .ref n1, .ref n2, .ref n3, .ref n4, .int sm, .int ln, .int tt, .int cm, .int dm, .int si, .int mu, .int 0, .int lin, .int oc, .int od])), (n4, .inl (cI, 7, .inl td))])) (va_A [(h0, .inr (6, [.ref f1, .ref f2, .ref f3, .ref f4, .ref f5, .ref f6, .ref f7, .ref f8, .ref f9, .ref f10, .ref f11, .ref n1, .ref n2, .ref n3, .ref n4, .int sm, .int ln, .int tt, .int cm, .int dm, .int si, .int mu, .int th, .int lin, .int oc, .int od])), (n4, .inl (cI, 7, .inl td))] sz)) 0 0 (va_A [(h0, .inr (6, [.ref f1, .ref f2, .ref f3, .ref f4, .ref f5, .ref f6, .ref f7, .ref f8, .ref f9, .ref f10, .ref f11, .ref n1, .ref n2, .ref n3, .ref n4, .int sm, .int ln, .int tt, .int cm, .int dm, .int si, .int mu, .int th, .int lin, .int oc, .int od])), (n4, .inl (cI, 7, .inl td))] sz) := by
  refine c_ofW (own := RMod) (by decide) rfl (fun p e s m below meth c hsz hx hb hr hml hown ht hlk hin hP hK hD hmb => ?_)
  subst hsz
  generalize hAe : va_A [(h0, .inr (6, [.ref f1, .ref f2, .ref f3, .ref f4, .ref f5, .ref f6, .ref f7, .ref f8, .ref f9, .ref f10, .ref f11, .ref n1, .ref n2, .ref n3, .ref n4, .int sm, .int ln, .int tt, .int cm, .int dm, .int si, .int mu, .int th, .int lin, .int oc, .int od])), (n4, .inl (cI, 7, .inl td))] s.heap.size = A at hD ⊢
  have hA : ∀ q : Nat, s.heap.size ≤ q → A q := fun q h => by rw [← hAe]; exact Or.inr h
  have hS : va_S A s.heap s.heap [] := va_S.rf
  have hl := lv_entry ([.ref h0, .int 3]) (n := 2) (Nat.le_of_ble_eq_true rfl)
  rw [lg_entry_eq]
  generalize (lg_sl ([.ref h0, .int 3]) ++ List.replicate (2 - (lg_sl ([.ref h0, .int 3])).length) Slot.unset).toArray = ls at hl ⊢
  have hl : lv_has ls 2 [(0, .ref h0), (1, .int 3)] := hl
  refine lv_iload_n hx hb dMod_code_0 rfl (lv_at hl 1 rfl) ?_
  refine lv_iconst (v := 0) hx hb dMod_code_1 (by decide) ?_
  refine lv_bipush (v := 6) hx hb dMod_code_2 (by decide) ?_
  refine q_i (wc := []) (wr := [(h0, .inr (6, [.ref f1, .ref f2, .ref f3, .ref f4, .ref f5, .ref f6, .ref f7, .ref f8, .ref f9, .ref f10, .ref f11, .ref n1, .ref n2, .ref n3, .ref n4, .int sm, .int ln, .int tt, .int cm, .int dm, .int si, .int mu, .int th, .int lin, .int oc, .int od])), (n4, .inl (cI, 7, .inl td))]) [] [0, 1] hK hP hD hS hA rfl rfl (by decide) (by decide) (va_runS (As := [.int 3, .int 0, .int 6]) (rest := []) ⟨hx, hb, hml, hown, ht⟩ (c_Mod_in l D cF cI s.heap.size 3 0 6) (va_cwS 3 ht (g_S km_Mod_141 ks_Mod_in kI_Mod kc_Mod_in) rfl rfl rfl (by decide +kernel) ⟨Nat.le_of_ble_eq_true rfl, Nat.le_of_ble_eq_true rfl⟩) (cPre_S hK hmb (hP.sub (ws' := []) [] rfl) (hD.sub (ws' := []) [] (by decide) rfl)) rfl rfl hl.1 rfl (lv_room (Nat.le_of_ble_eq_true rfl)) dMod_code_4 ⟨Nat.le_of_ble_eq_true rfl, Nat.le_of_ble_eq_true rfl⟩) (fun r1 u2 H locs w3 hP hD hS => ?_)
  subst w3
  have hP : va_P D vwCl [(h0, .inr (6, [.ref f1, .ref f2, .ref f3, .ref f4, .ref f5, .ref f6, .ref f7, .ref f8, .ref f9, .ref f10, .ref f11, .ref n1, .ref n2, .ref n3, .ref n4, .int sm, .int ln, .int tt, .int cm, .int dm, .int si, .int mu, .int th, .int lin, .int oc, .int od])), (n4, .inl (cI, 7, .inl td))] H := hP
  have hD : va_D A [(h0, .inr (6, [.ref f1, .ref f2, .ref f3, .ref f4, .ref f5, .ref f6, .ref f7, .ref f8, .ref f9, .ref f10, .ref f11, .ref n1, .ref n2, .ref n3, .ref n4, .int sm, .int ln, .int tt, .int cm, .int dm, .int si, .int mu, .int th, .int lin, .int oc, .int od])), (n4, .inl (cI, 7, .inl td))] := hD
  refine lv_if_ne (tgt := 16) hx hb dMod_code_7 (by decide) (fun c4 => ?_) (fun c4 => ?_)
  · refine lv_aload_n hx hb dMod_code_16 rfl (lv_at hl 0 rfl) ?_
    refine lv_iconst (v := 0) hx hb dMod_code_17 (by decide) ?_
    refine va_put (D := D) (ci := 6) (v := .int 0) (ty := .int) hx hb ht inMod tMod tMod_ok nMod hown hK hP hD hS 0 rfl rfl 22 (by decide) (ht _ kf_Mod_56) (fun _ h9 => h9) rfl (by decide +kernel) rfl rfl (Nat.le_of_ble_eq_true rfl) dMod_code_18 (fun H locs hP hD hS => ?_)
    have hP : va_P D vwCl [(h0, .inr (6, [.ref f1, .ref f2, .ref f3, .ref f4, .ref f5, .ref f6, .ref f7, .ref f8, .ref f9, .ref f10, .ref f11, .ref n1, .ref n2, .ref n3, .ref n4, .int sm, .int ln, .int tt, .int cm, .int dm, .int si, .int mu, .int 0, .int lin, .int oc, .int od])), (n4, .inl (cI, 7, .inl td))] H := hP
    have hD : va_D A [(h0, .inr (6, [.ref f1, .ref f2, .ref f3, .ref f4, .ref f5, .ref f6, .ref f7, .ref f8, .ref f9, .ref f10, .ref f11, .ref n1, .ref n2, .ref n3, .ref n4, .int sm, .int ln, .int tt, .int cm, .int dm, .int si, .int mu, .int 0, .int lin, .int oc, .int od])), (n4, .inl (cI, 7, .inl td))] := hD
    refine lv_aload_n hx hb dMod_code_21 rfl (lv_at hl 0 rfl) ?_
    refine va_get (D := D) (ci := 6) (v := .ref n4) hx hb ht inMod hown hK hP 0 rfl rfl 14 (by decide) (ht _ kf_Mod_53) (fun _ h9 => h9) rfl dMod_code_22 ?_
    refine lv_iload_n hx hb dMod_code_25 rfl (lv_at hl 1 rfl) ?_
    refine k_iald (j := 3) hx hb hK hP 1 1 rfl rfl (by unfold vp_in; decide) rfl dMod_code_26 ?_
    have hP := hP.sub (ws' := [(h0, .inr (6, [.ref f1, .ref f2, .ref f3, .ref f4, .ref f5, .ref f6, .ref f7, .ref f8, .ref f9, .ref f10, .ref f11, .ref n1, .ref n2, .ref n3, .ref n4, .int sm, .int ln, .int tt, .int cm, .int dm, .int si, .int mu, .int 0, .int lin, .int oc, .int od])), (n4, .inl (cI, 7, .inl td))]) [0, 1] rfl
    have hD := hD.sub (ws' := [(h0, .inr (6, [.ref f1, .ref f2, .ref f3, .ref f4, .ref f5, .ref f6, .ref f7, .ref f8, .ref f9, .ref f10, .ref f11, .ref n1, .ref n2, .ref n3, .ref n4, .int sm, .int ln, .int tt, .int cm, .int dm, .int si, .int mu, .int 0, .int lin, .int oc, .int od])), (n4, .inl (cI, 7, .inl td))]) [0, 1] (by decide) rfl
    exact e_i () hx hb hr hlk hK hP hD hS rfl rfl dMod_code_27
  · exact absurd c4 (by decide)

set_option maxHeartbeats 4000000 in
set_option maxRecDepth 100000 in
theorem c_Mod_code_4 (l : Launch) (D : va_G) (cF cI : ClassId) (sz : Nat) (h0 f1 f2 f3 f4 f5 f6 f7 f8 f9 f10 f11 n1 n2 n3 n4 : Nat) (sm : Int32) (ln : Int32) (tt : Int32) (cm : Int32) (dm : Int32) (si : Int32) (mu : Int32) (th : Int32) (lin : Int32) (oc : Int32) (od : Int32) (td : Nat → Int32) : Met l yMod_code (.code yMod_code cMod_code 2 (some .int) :: TB) ({ frames := 1, cells := 0, slots := 0, locals := 22 }) (va_Pc [.ref h0, .int 4] (cPre D cF cI [(h0, .inr (6, [.ref f1, .ref f2, .ref f3, .ref f4, .ref f5, .ref f6, .ref f7, .ref f8, .ref f9, .ref f10, .ref f11, .ref n1, .ref n2, .ref n3, .ref n4, .int sm, .int ln, .int tt, .int cm, .int dm, .int si, .int mu, .int th, .int lin, .int oc, .int od])), (n4, .inl (cI, 7, .inl td))] sz)) (va_Qi (fun (r : Int32) (_ : Unit) => r = td 4) (cB D cF cI (va_A [(h0, .inr (6, [.ref f1, .ref f2, .ref f3, .ref f4, .ref f5, .ref f6, .ref f7, .ref f8, .ref f9, .ref f10, .ref f11, .ref n1, .ref n2, .ref n3, .ref n4, .int sm, .int ln, .int tt, .int cm, .int dm, .int si, .int mu, .int th, .int lin, .int oc, .int od])), (n4, .inl (cI, 7, .inl td))] sz) (fun _ : Unit => [(h0, .inr (6, [.ref f1, .ref f2, .ref f3, .ref f4, .ref f5, .ref f6, .ref f7, .ref f8, .ref f9, .ref f10, .ref f11, .ref n1, .ref n2, .ref n3, .ref n4, .int sm, .int ln, .int tt, .int cm, .int dm, .int si, .int mu, .int 0, .int lin, .int oc, .int od])), (n4, .inl (cI, 7, .inl td))])) (va_A [(h0, .inr (6, [.ref f1, .ref f2, .ref f3, .ref f4, .ref f5, .ref f6, .ref f7, .ref f8, .ref f9, .ref f10, .ref f11, .ref n1, .ref n2, .ref n3, .ref n4, .int sm, .int ln, .int tt, .int cm, .int dm, .int si, .int mu, .int th, .int lin, .int oc, .int od])), (n4, .inl (cI, 7, .inl td))] sz)) 0 0 (va_A [(h0, .inr (6, [.ref f1, .ref f2, .ref f3, .ref f4, .ref f5, .ref f6, .ref f7, .ref f8, .ref f9, .ref f10, .ref f11, .ref n1, .ref n2, .ref n3, .ref n4, .int sm, .int ln, .int tt, .int cm, .int dm, .int si, .int mu, .int th, .int lin, .int oc, .int od])), (n4, .inl (cI, 7, .inl td))] sz) := by
  refine c_ofW (own := RMod) (by decide) rfl (fun p e s m below meth c hsz hx hb hr hml hown ht hlk hin hP hK hD hmb => ?_)
  subst hsz
  generalize hAe : va_A [(h0, .inr (6, [.ref f1, .ref f2, .ref f3, .ref f4, .ref f5, .ref f6, .ref f7, .ref f8, .ref f9, .ref f10, .ref f11, .ref n1, .ref n2, .ref n3, .ref n4, .int sm, .int ln, .int tt, .int cm, .int dm, .int si, .int mu, .int th, .int lin, .int oc, .int od])), (n4, .inl (cI, 7, .inl td))] s.heap.size = A at hD ⊢
  have hA : ∀ q : Nat, s.heap.size ≤ q → A q := fun q h => by rw [← hAe]; exact Or.inr h
  have hS : va_S A s.heap s.heap [] := va_S.rf
  have hl := lv_entry ([.ref h0, .int 4]) (n := 2) (Nat.le_of_ble_eq_true rfl)
  rw [lg_entry_eq]
  generalize (lg_sl ([.ref h0, .int 4]) ++ List.replicate (2 - (lg_sl ([.ref h0, .int 4])).length) Slot.unset).toArray = ls at hl ⊢
  have hl : lv_has ls 2 [(0, .ref h0), (1, .int 4)] := hl
  refine lv_iload_n hx hb dMod_code_0 rfl (lv_at hl 1 rfl) ?_
  refine lv_iconst (v := 0) hx hb dMod_code_1 (by decide) ?_
  refine lv_bipush (v := 6) hx hb dMod_code_2 (by decide) ?_
  refine q_i (wc := []) (wr := [(h0, .inr (6, [.ref f1, .ref f2, .ref f3, .ref f4, .ref f5, .ref f6, .ref f7, .ref f8, .ref f9, .ref f10, .ref f11, .ref n1, .ref n2, .ref n3, .ref n4, .int sm, .int ln, .int tt, .int cm, .int dm, .int si, .int mu, .int th, .int lin, .int oc, .int od])), (n4, .inl (cI, 7, .inl td))]) [] [0, 1] hK hP hD hS hA rfl rfl (by decide) (by decide) (va_runS (As := [.int 4, .int 0, .int 6]) (rest := []) ⟨hx, hb, hml, hown, ht⟩ (c_Mod_in l D cF cI s.heap.size 4 0 6) (va_cwS 3 ht (g_S km_Mod_141 ks_Mod_in kI_Mod kc_Mod_in) rfl rfl rfl (by decide +kernel) ⟨Nat.le_of_ble_eq_true rfl, Nat.le_of_ble_eq_true rfl⟩) (cPre_S hK hmb (hP.sub (ws' := []) [] rfl) (hD.sub (ws' := []) [] (by decide) rfl)) rfl rfl hl.1 rfl (lv_room (Nat.le_of_ble_eq_true rfl)) dMod_code_4 ⟨Nat.le_of_ble_eq_true rfl, Nat.le_of_ble_eq_true rfl⟩) (fun r1 u2 H locs w3 hP hD hS => ?_)
  subst w3
  have hP : va_P D vwCl [(h0, .inr (6, [.ref f1, .ref f2, .ref f3, .ref f4, .ref f5, .ref f6, .ref f7, .ref f8, .ref f9, .ref f10, .ref f11, .ref n1, .ref n2, .ref n3, .ref n4, .int sm, .int ln, .int tt, .int cm, .int dm, .int si, .int mu, .int th, .int lin, .int oc, .int od])), (n4, .inl (cI, 7, .inl td))] H := hP
  have hD : va_D A [(h0, .inr (6, [.ref f1, .ref f2, .ref f3, .ref f4, .ref f5, .ref f6, .ref f7, .ref f8, .ref f9, .ref f10, .ref f11, .ref n1, .ref n2, .ref n3, .ref n4, .int sm, .int ln, .int tt, .int cm, .int dm, .int si, .int mu, .int th, .int lin, .int oc, .int od])), (n4, .inl (cI, 7, .inl td))] := hD
  refine lv_if_ne (tgt := 16) hx hb dMod_code_7 (by decide) (fun c4 => ?_) (fun c4 => ?_)
  · refine lv_aload_n hx hb dMod_code_16 rfl (lv_at hl 0 rfl) ?_
    refine lv_iconst (v := 0) hx hb dMod_code_17 (by decide) ?_
    refine va_put (D := D) (ci := 6) (v := .int 0) (ty := .int) hx hb ht inMod tMod tMod_ok nMod hown hK hP hD hS 0 rfl rfl 22 (by decide) (ht _ kf_Mod_56) (fun _ h9 => h9) rfl (by decide +kernel) rfl rfl (Nat.le_of_ble_eq_true rfl) dMod_code_18 (fun H locs hP hD hS => ?_)
    have hP : va_P D vwCl [(h0, .inr (6, [.ref f1, .ref f2, .ref f3, .ref f4, .ref f5, .ref f6, .ref f7, .ref f8, .ref f9, .ref f10, .ref f11, .ref n1, .ref n2, .ref n3, .ref n4, .int sm, .int ln, .int tt, .int cm, .int dm, .int si, .int mu, .int 0, .int lin, .int oc, .int od])), (n4, .inl (cI, 7, .inl td))] H := hP
    have hD : va_D A [(h0, .inr (6, [.ref f1, .ref f2, .ref f3, .ref f4, .ref f5, .ref f6, .ref f7, .ref f8, .ref f9, .ref f10, .ref f11, .ref n1, .ref n2, .ref n3, .ref n4, .int sm, .int ln, .int tt, .int cm, .int dm, .int si, .int mu, .int 0, .int lin, .int oc, .int od])), (n4, .inl (cI, 7, .inl td))] := hD
    refine lv_aload_n hx hb dMod_code_21 rfl (lv_at hl 0 rfl) ?_
    refine va_get (D := D) (ci := 6) (v := .ref n4) hx hb ht inMod hown hK hP 0 rfl rfl 14 (by decide) (ht _ kf_Mod_53) (fun _ h9 => h9) rfl dMod_code_22 ?_
    refine lv_iload_n hx hb dMod_code_25 rfl (lv_at hl 1 rfl) ?_
    refine k_iald (j := 4) hx hb hK hP 1 1 rfl rfl (by unfold vp_in; decide) rfl dMod_code_26 ?_
    have hP := hP.sub (ws' := [(h0, .inr (6, [.ref f1, .ref f2, .ref f3, .ref f4, .ref f5, .ref f6, .ref f7, .ref f8, .ref f9, .ref f10, .ref f11, .ref n1, .ref n2, .ref n3, .ref n4, .int sm, .int ln, .int tt, .int cm, .int dm, .int si, .int mu, .int 0, .int lin, .int oc, .int od])), (n4, .inl (cI, 7, .inl td))]) [0, 1] rfl
    have hD := hD.sub (ws' := [(h0, .inr (6, [.ref f1, .ref f2, .ref f3, .ref f4, .ref f5, .ref f6, .ref f7, .ref f8, .ref f9, .ref f10, .ref f11, .ref n1, .ref n2, .ref n3, .ref n4, .int sm, .int ln, .int tt, .int cm, .int dm, .int si, .int mu, .int 0, .int lin, .int oc, .int od])), (n4, .inl (cI, 7, .inl td))]) [0, 1] (by decide) rfl
    exact e_i () hx hb hr hlk hK hP hD hS rfl rfl dMod_code_27
  · exact absurd c4 (by decide)

set_option maxHeartbeats 4000000 in
set_option maxRecDepth 100000 in
theorem c_Mod_code_5 (l : Launch) (D : va_G) (cF cI : ClassId) (sz : Nat) (h0 f1 f2 f3 f4 f5 f6 f7 f8 f9 f10 f11 n1 n2 n3 n4 : Nat) (sm : Int32) (ln : Int32) (tt : Int32) (cm : Int32) (dm : Int32) (si : Int32) (mu : Int32) (th : Int32) (lin : Int32) (oc : Int32) (od : Int32) (td : Nat → Int32) : Met l yMod_code (.code yMod_code cMod_code 2 (some .int) :: TB) ({ frames := 1, cells := 0, slots := 0, locals := 22 }) (va_Pc [.ref h0, .int 5] (cPre D cF cI [(h0, .inr (6, [.ref f1, .ref f2, .ref f3, .ref f4, .ref f5, .ref f6, .ref f7, .ref f8, .ref f9, .ref f10, .ref f11, .ref n1, .ref n2, .ref n3, .ref n4, .int sm, .int ln, .int tt, .int cm, .int dm, .int si, .int mu, .int th, .int lin, .int oc, .int od])), (n4, .inl (cI, 7, .inl td))] sz)) (va_Qi (fun (r : Int32) (_ : Unit) => r = td 5) (cB D cF cI (va_A [(h0, .inr (6, [.ref f1, .ref f2, .ref f3, .ref f4, .ref f5, .ref f6, .ref f7, .ref f8, .ref f9, .ref f10, .ref f11, .ref n1, .ref n2, .ref n3, .ref n4, .int sm, .int ln, .int tt, .int cm, .int dm, .int si, .int mu, .int th, .int lin, .int oc, .int od])), (n4, .inl (cI, 7, .inl td))] sz) (fun _ : Unit => [(h0, .inr (6, [.ref f1, .ref f2, .ref f3, .ref f4, .ref f5, .ref f6, .ref f7, .ref f8, .ref f9, .ref f10, .ref f11, .ref n1, .ref n2, .ref n3, .ref n4, .int sm, .int ln, .int tt, .int cm, .int dm, .int si, .int mu, .int 0, .int lin, .int oc, .int od])), (n4, .inl (cI, 7, .inl td))])) (va_A [(h0, .inr (6, [.ref f1, .ref f2, .ref f3, .ref f4, .ref f5, .ref f6, .ref f7, .ref f8, .ref f9, .ref f10, .ref f11, .ref n1, .ref n2, .ref n3, .ref n4, .int sm, .int ln, .int tt, .int cm, .int dm, .int si, .int mu, .int th, .int lin, .int oc, .int od])), (n4, .inl (cI, 7, .inl td))] sz)) 0 0 (va_A [(h0, .inr (6, [.ref f1, .ref f2, .ref f3, .ref f4, .ref f5, .ref f6, .ref f7, .ref f8, .ref f9, .ref f10, .ref f11, .ref n1, .ref n2, .ref n3, .ref n4, .int sm, .int ln, .int tt, .int cm, .int dm, .int si, .int mu, .int th, .int lin, .int oc, .int od])), (n4, .inl (cI, 7, .inl td))] sz) := by
  refine c_ofW (own := RMod) (by decide) rfl (fun p e s m below meth c hsz hx hb hr hml hown ht hlk hin hP hK hD hmb => ?_)
  subst hsz
  generalize hAe : va_A [(h0, .inr (6, [.ref f1, .ref f2, .ref f3, .ref f4, .ref f5, .ref f6, .ref f7, .ref f8, .ref f9, .ref f10, .ref f11, .ref n1, .ref n2, .ref n3, .ref n4, .int sm, .int ln, .int tt, .int cm, .int dm, .int si, .int mu, .int th, .int lin, .int oc, .int od])), (n4, .inl (cI, 7, .inl td))] s.heap.size = A at hD ⊢
  have hA : ∀ q : Nat, s.heap.size ≤ q → A q := fun q h => by rw [← hAe]; exact Or.inr h
  have hS : va_S A s.heap s.heap [] := va_S.rf
  have hl := lv_entry ([.ref h0, .int 5]) (n := 2) (Nat.le_of_ble_eq_true rfl)
  rw [lg_entry_eq]
  generalize (lg_sl ([.ref h0, .int 5]) ++ List.replicate (2 - (lg_sl ([.ref h0, .int 5])).length) Slot.unset).toArray = ls at hl ⊢
  have hl : lv_has ls 2 [(0, .ref h0), (1, .int 5)] := hl
  refine lv_iload_n hx hb dMod_code_0 rfl (lv_at hl 1 rfl) ?_
  refine lv_iconst (v := 0) hx hb dMod_code_1 (by decide) ?_
  refine lv_bipush (v := 6) hx hb dMod_code_2 (by decide) ?_
  refine q_i (wc := []) (wr := [(h0, .inr (6, [.ref f1, .ref f2, .ref f3, .ref f4, .ref f5, .ref f6, .ref f7, .ref f8, .ref f9, .ref f10, .ref f11, .ref n1, .ref n2, .ref n3, .ref n4, .int sm, .int ln, .int tt, .int cm, .int dm, .int si, .int mu, .int th, .int lin, .int oc, .int od])), (n4, .inl (cI, 7, .inl td))]) [] [0, 1] hK hP hD hS hA rfl rfl (by decide) (by decide) (va_runS (As := [.int 5, .int 0, .int 6]) (rest := []) ⟨hx, hb, hml, hown, ht⟩ (c_Mod_in l D cF cI s.heap.size 5 0 6) (va_cwS 3 ht (g_S km_Mod_141 ks_Mod_in kI_Mod kc_Mod_in) rfl rfl rfl (by decide +kernel) ⟨Nat.le_of_ble_eq_true rfl, Nat.le_of_ble_eq_true rfl⟩) (cPre_S hK hmb (hP.sub (ws' := []) [] rfl) (hD.sub (ws' := []) [] (by decide) rfl)) rfl rfl hl.1 rfl (lv_room (Nat.le_of_ble_eq_true rfl)) dMod_code_4 ⟨Nat.le_of_ble_eq_true rfl, Nat.le_of_ble_eq_true rfl⟩) (fun r1 u2 H locs w3 hP hD hS => ?_)
  subst w3
  have hP : va_P D vwCl [(h0, .inr (6, [.ref f1, .ref f2, .ref f3, .ref f4, .ref f5, .ref f6, .ref f7, .ref f8, .ref f9, .ref f10, .ref f11, .ref n1, .ref n2, .ref n3, .ref n4, .int sm, .int ln, .int tt, .int cm, .int dm, .int si, .int mu, .int th, .int lin, .int oc, .int od])), (n4, .inl (cI, 7, .inl td))] H := hP
  have hD : va_D A [(h0, .inr (6, [.ref f1, .ref f2, .ref f3, .ref f4, .ref f5, .ref f6, .ref f7, .ref f8, .ref f9, .ref f10, .ref f11, .ref n1, .ref n2, .ref n3, .ref n4, .int sm, .int ln, .int tt, .int cm, .int dm, .int si, .int mu, .int th, .int lin, .int oc, .int od])), (n4, .inl (cI, 7, .inl td))] := hD
  refine lv_if_ne (tgt := 16) hx hb dMod_code_7 (by decide) (fun c4 => ?_) (fun c4 => ?_)
  · refine lv_aload_n hx hb dMod_code_16 rfl (lv_at hl 0 rfl) ?_
    refine lv_iconst (v := 0) hx hb dMod_code_17 (by decide) ?_
    refine va_put (D := D) (ci := 6) (v := .int 0) (ty := .int) hx hb ht inMod tMod tMod_ok nMod hown hK hP hD hS 0 rfl rfl 22 (by decide) (ht _ kf_Mod_56) (fun _ h9 => h9) rfl (by decide +kernel) rfl rfl (Nat.le_of_ble_eq_true rfl) dMod_code_18 (fun H locs hP hD hS => ?_)
    have hP : va_P D vwCl [(h0, .inr (6, [.ref f1, .ref f2, .ref f3, .ref f4, .ref f5, .ref f6, .ref f7, .ref f8, .ref f9, .ref f10, .ref f11, .ref n1, .ref n2, .ref n3, .ref n4, .int sm, .int ln, .int tt, .int cm, .int dm, .int si, .int mu, .int 0, .int lin, .int oc, .int od])), (n4, .inl (cI, 7, .inl td))] H := hP
    have hD : va_D A [(h0, .inr (6, [.ref f1, .ref f2, .ref f3, .ref f4, .ref f5, .ref f6, .ref f7, .ref f8, .ref f9, .ref f10, .ref f11, .ref n1, .ref n2, .ref n3, .ref n4, .int sm, .int ln, .int tt, .int cm, .int dm, .int si, .int mu, .int 0, .int lin, .int oc, .int od])), (n4, .inl (cI, 7, .inl td))] := hD
    refine lv_aload_n hx hb dMod_code_21 rfl (lv_at hl 0 rfl) ?_
    refine va_get (D := D) (ci := 6) (v := .ref n4) hx hb ht inMod hown hK hP 0 rfl rfl 14 (by decide) (ht _ kf_Mod_53) (fun _ h9 => h9) rfl dMod_code_22 ?_
    refine lv_iload_n hx hb dMod_code_25 rfl (lv_at hl 1 rfl) ?_
    refine k_iald (j := 5) hx hb hK hP 1 1 rfl rfl (by unfold vp_in; decide) rfl dMod_code_26 ?_
    have hP := hP.sub (ws' := [(h0, .inr (6, [.ref f1, .ref f2, .ref f3, .ref f4, .ref f5, .ref f6, .ref f7, .ref f8, .ref f9, .ref f10, .ref f11, .ref n1, .ref n2, .ref n3, .ref n4, .int sm, .int ln, .int tt, .int cm, .int dm, .int si, .int mu, .int 0, .int lin, .int oc, .int od])), (n4, .inl (cI, 7, .inl td))]) [0, 1] rfl
    have hD := hD.sub (ws' := [(h0, .inr (6, [.ref f1, .ref f2, .ref f3, .ref f4, .ref f5, .ref f6, .ref f7, .ref f8, .ref f9, .ref f10, .ref f11, .ref n1, .ref n2, .ref n3, .ref n4, .int sm, .int ln, .int tt, .int cm, .int dm, .int si, .int mu, .int 0, .int lin, .int oc, .int od])), (n4, .inl (cI, 7, .inl td))]) [0, 1] (by decide) rfl
    exact e_i () hx hb hr hlk hK hP hD hS rfl rfl dMod_code_27
  · exact absurd c4 (by decide)

set_option maxHeartbeats 4000000 in
set_option maxRecDepth 100000 in
theorem c_Mod_code_6 (l : Launch) (D : va_G) (cF cI : ClassId) (sz : Nat) (h0 f1 f2 f3 f4 f5 f6 f7 f8 f9 f10 f11 n1 n2 n3 n4 : Nat) (sm : Int32) (ln : Int32) (tt : Int32) (cm : Int32) (dm : Int32) (si : Int32) (mu : Int32) (th : Int32) (lin : Int32) (oc : Int32) (od : Int32) (td : Nat → Int32) : Met l yMod_code (.code yMod_code cMod_code 2 (some .int) :: TB) ({ frames := 1, cells := 0, slots := 0, locals := 22 }) (va_Pc [.ref h0, .int 6] (cPre D cF cI [(h0, .inr (6, [.ref f1, .ref f2, .ref f3, .ref f4, .ref f5, .ref f6, .ref f7, .ref f8, .ref f9, .ref f10, .ref f11, .ref n1, .ref n2, .ref n3, .ref n4, .int sm, .int ln, .int tt, .int cm, .int dm, .int si, .int mu, .int th, .int lin, .int oc, .int od])), (n4, .inl (cI, 7, .inl td))] sz)) (va_Qi (fun (r : Int32) (_ : Unit) => r = td 6) (cB D cF cI (va_A [(h0, .inr (6, [.ref f1, .ref f2, .ref f3, .ref f4, .ref f5, .ref f6, .ref f7, .ref f8, .ref f9, .ref f10, .ref f11, .ref n1, .ref n2, .ref n3, .ref n4, .int sm, .int ln, .int tt, .int cm, .int dm, .int si, .int mu, .int th, .int lin, .int oc, .int od])), (n4, .inl (cI, 7, .inl td))] sz) (fun _ : Unit => [(h0, .inr (6, [.ref f1, .ref f2, .ref f3, .ref f4, .ref f5, .ref f6, .ref f7, .ref f8, .ref f9, .ref f10, .ref f11, .ref n1, .ref n2, .ref n3, .ref n4, .int sm, .int ln, .int tt, .int cm, .int dm, .int si, .int mu, .int 0, .int lin, .int oc, .int od])), (n4, .inl (cI, 7, .inl td))])) (va_A [(h0, .inr (6, [.ref f1, .ref f2, .ref f3, .ref f4, .ref f5, .ref f6, .ref f7, .ref f8, .ref f9, .ref f10, .ref f11, .ref n1, .ref n2, .ref n3, .ref n4, .int sm, .int ln, .int tt, .int cm, .int dm, .int si, .int mu, .int th, .int lin, .int oc, .int od])), (n4, .inl (cI, 7, .inl td))] sz)) 0 0 (va_A [(h0, .inr (6, [.ref f1, .ref f2, .ref f3, .ref f4, .ref f5, .ref f6, .ref f7, .ref f8, .ref f9, .ref f10, .ref f11, .ref n1, .ref n2, .ref n3, .ref n4, .int sm, .int ln, .int tt, .int cm, .int dm, .int si, .int mu, .int th, .int lin, .int oc, .int od])), (n4, .inl (cI, 7, .inl td))] sz) := by
  refine c_ofW (own := RMod) (by decide) rfl (fun p e s m below meth c hsz hx hb hr hml hown ht hlk hin hP hK hD hmb => ?_)
  subst hsz
  generalize hAe : va_A [(h0, .inr (6, [.ref f1, .ref f2, .ref f3, .ref f4, .ref f5, .ref f6, .ref f7, .ref f8, .ref f9, .ref f10, .ref f11, .ref n1, .ref n2, .ref n3, .ref n4, .int sm, .int ln, .int tt, .int cm, .int dm, .int si, .int mu, .int th, .int lin, .int oc, .int od])), (n4, .inl (cI, 7, .inl td))] s.heap.size = A at hD ⊢
  have hA : ∀ q : Nat, s.heap.size ≤ q → A q := fun q h => by rw [← hAe]; exact Or.inr h
  have hS : va_S A s.heap s.heap [] := va_S.rf
  have hl := lv_entry ([.ref h0, .int 6]) (n := 2) (Nat.le_of_ble_eq_true rfl)
  rw [lg_entry_eq]
  generalize (lg_sl ([.ref h0, .int 6]) ++ List.replicate (2 - (lg_sl ([.ref h0, .int 6])).length) Slot.unset).toArray = ls at hl ⊢
  have hl : lv_has ls 2 [(0, .ref h0), (1, .int 6)] := hl
  refine lv_iload_n hx hb dMod_code_0 rfl (lv_at hl 1 rfl) ?_
  refine lv_iconst (v := 0) hx hb dMod_code_1 (by decide) ?_
  refine lv_bipush (v := 6) hx hb dMod_code_2 (by decide) ?_
  refine q_i (wc := []) (wr := [(h0, .inr (6, [.ref f1, .ref f2, .ref f3, .ref f4, .ref f5, .ref f6, .ref f7, .ref f8, .ref f9, .ref f10, .ref f11, .ref n1, .ref n2, .ref n3, .ref n4, .int sm, .int ln, .int tt, .int cm, .int dm, .int si, .int mu, .int th, .int lin, .int oc, .int od])), (n4, .inl (cI, 7, .inl td))]) [] [0, 1] hK hP hD hS hA rfl rfl (by decide) (by decide) (va_runS (As := [.int 6, .int 0, .int 6]) (rest := []) ⟨hx, hb, hml, hown, ht⟩ (c_Mod_in l D cF cI s.heap.size 6 0 6) (va_cwS 3 ht (g_S km_Mod_141 ks_Mod_in kI_Mod kc_Mod_in) rfl rfl rfl (by decide +kernel) ⟨Nat.le_of_ble_eq_true rfl, Nat.le_of_ble_eq_true rfl⟩) (cPre_S hK hmb (hP.sub (ws' := []) [] rfl) (hD.sub (ws' := []) [] (by decide) rfl)) rfl rfl hl.1 rfl (lv_room (Nat.le_of_ble_eq_true rfl)) dMod_code_4 ⟨Nat.le_of_ble_eq_true rfl, Nat.le_of_ble_eq_true rfl⟩) (fun r1 u2 H locs w3 hP hD hS => ?_)
  subst w3
  have hP : va_P D vwCl [(h0, .inr (6, [.ref f1, .ref f2, .ref f3, .ref f4, .ref f5, .ref f6, .ref f7, .ref f8, .ref f9, .ref f10, .ref f11, .ref n1, .ref n2, .ref n3, .ref n4, .int sm, .int ln, .int tt, .int cm, .int dm, .int si, .int mu, .int th, .int lin, .int oc, .int od])), (n4, .inl (cI, 7, .inl td))] H := hP
  have hD : va_D A [(h0, .inr (6, [.ref f1, .ref f2, .ref f3, .ref f4, .ref f5, .ref f6, .ref f7, .ref f8, .ref f9, .ref f10, .ref f11, .ref n1, .ref n2, .ref n3, .ref n4, .int sm, .int ln, .int tt, .int cm, .int dm, .int si, .int mu, .int th, .int lin, .int oc, .int od])), (n4, .inl (cI, 7, .inl td))] := hD
  refine lv_if_ne (tgt := 16) hx hb dMod_code_7 (by decide) (fun c4 => ?_) (fun c4 => ?_)
  · refine lv_aload_n hx hb dMod_code_16 rfl (lv_at hl 0 rfl) ?_
    refine lv_iconst (v := 0) hx hb dMod_code_17 (by decide) ?_
    refine va_put (D := D) (ci := 6) (v := .int 0) (ty := .int) hx hb ht inMod tMod tMod_ok nMod hown hK hP hD hS 0 rfl rfl 22 (by decide) (ht _ kf_Mod_56) (fun _ h9 => h9) rfl (by decide +kernel) rfl rfl (Nat.le_of_ble_eq_true rfl) dMod_code_18 (fun H locs hP hD hS => ?_)
    have hP : va_P D vwCl [(h0, .inr (6, [.ref f1, .ref f2, .ref f3, .ref f4, .ref f5, .ref f6, .ref f7, .ref f8, .ref f9, .ref f10, .ref f11, .ref n1, .ref n2, .ref n3, .ref n4, .int sm, .int ln, .int tt, .int cm, .int dm, .int si, .int mu, .int 0, .int lin, .int oc, .int od])), (n4, .inl (cI, 7, .inl td))] H := hP
    have hD : va_D A [(h0, .inr (6, [.ref f1, .ref f2, .ref f3, .ref f4, .ref f5, .ref f6, .ref f7, .ref f8, .ref f9, .ref f10, .ref f11, .ref n1, .ref n2, .ref n3, .ref n4, .int sm, .int ln, .int tt, .int cm, .int dm, .int si, .int mu, .int 0, .int lin, .int oc, .int od])), (n4, .inl (cI, 7, .inl td))] := hD
    refine lv_aload_n hx hb dMod_code_21 rfl (lv_at hl 0 rfl) ?_
    refine va_get (D := D) (ci := 6) (v := .ref n4) hx hb ht inMod hown hK hP 0 rfl rfl 14 (by decide) (ht _ kf_Mod_53) (fun _ h9 => h9) rfl dMod_code_22 ?_
    refine lv_iload_n hx hb dMod_code_25 rfl (lv_at hl 1 rfl) ?_
    refine k_iald (j := 6) hx hb hK hP 1 1 rfl rfl (by unfold vp_in; decide) rfl dMod_code_26 ?_
    have hP := hP.sub (ws' := [(h0, .inr (6, [.ref f1, .ref f2, .ref f3, .ref f4, .ref f5, .ref f6, .ref f7, .ref f8, .ref f9, .ref f10, .ref f11, .ref n1, .ref n2, .ref n3, .ref n4, .int sm, .int ln, .int tt, .int cm, .int dm, .int si, .int mu, .int 0, .int lin, .int oc, .int od])), (n4, .inl (cI, 7, .inl td))]) [0, 1] rfl
    have hD := hD.sub (ws' := [(h0, .inr (6, [.ref f1, .ref f2, .ref f3, .ref f4, .ref f5, .ref f6, .ref f7, .ref f8, .ref f9, .ref f10, .ref f11, .ref n1, .ref n2, .ref n3, .ref n4, .int sm, .int ln, .int tt, .int cm, .int dm, .int si, .int mu, .int 0, .int lin, .int oc, .int od])), (n4, .inl (cI, 7, .inl td))]) [0, 1] (by decide) rfl
    exact e_i () hx hb hr hlk hK hP hD hS rfl rfl dMod_code_27
  · exact absurd c4 (by decide)

set_option maxHeartbeats 4000000 in
set_option maxRecDepth 100000 in
theorem c_Mod_code_X (l : Launch) (D : va_G) (cF cI : ClassId) (sz : Nat) (h0 f1 f2 f3 f4 f5 f6 f7 f8 f9 f10 f11 n1 n2 n3 n4 : Nat) (sm : Int32) (ln : Int32) (tt : Int32) (cm : Int32) (dm : Int32) (si : Int32) (mu : Int32) (th : Int32) (lin : Int32) (oc : Int32) (od : Int32) (k : Int32) (hk : m_in k 0 6 = 0) : Met l yMod_code (.code yMod_code cMod_code 2 (some .int) :: TB) ({ frames := 1, cells := 0, slots := 0, locals := 22 }) (va_Pc [.ref h0, .int k] (cPre D cF cI [(h0, .inr (6, [.ref f1, .ref f2, .ref f3, .ref f4, .ref f5, .ref f6, .ref f7, .ref f8, .ref f9, .ref f10, .ref f11, .ref n1, .ref n2, .ref n3, .ref n4, .int sm, .int ln, .int tt, .int cm, .int dm, .int si, .int mu, .int th, .int lin, .int oc, .int od]))] sz)) (va_Qi (fun (r : Int32) (_ : Unit) => r = 0) (cB D cF cI (va_A [(h0, .inr (6, [.ref f1, .ref f2, .ref f3, .ref f4, .ref f5, .ref f6, .ref f7, .ref f8, .ref f9, .ref f10, .ref f11, .ref n1, .ref n2, .ref n3, .ref n4, .int sm, .int ln, .int tt, .int cm, .int dm, .int si, .int mu, .int th, .int lin, .int oc, .int od]))] sz) (fun _ : Unit => [(h0, .inr (6, [.ref f1, .ref f2, .ref f3, .ref f4, .ref f5, .ref f6, .ref f7, .ref f8, .ref f9, .ref f10, .ref f11, .ref n1, .ref n2, .ref n3, .ref n4, .int sm, .int ln, .int tt, .int cm, .int dm, .int si, .int mu, .int 1, .int lin, .int oc, .int od]))])) (va_A [(h0, .inr (6, [.ref f1, .ref f2, .ref f3, .ref f4, .ref f5, .ref f6, .ref f7, .ref f8, .ref f9, .ref f10, .ref f11, .ref n1, .ref n2, .ref n3, .ref n4, .int sm, .int ln, .int tt, .int cm, .int dm, .int si, .int mu, .int th, .int lin, .int oc, .int od]))] sz)) 0 0 (va_A [(h0, .inr (6, [.ref f1, .ref f2, .ref f3, .ref f4, .ref f5, .ref f6, .ref f7, .ref f8, .ref f9, .ref f10, .ref f11, .ref n1, .ref n2, .ref n3, .ref n4, .int sm, .int ln, .int tt, .int cm, .int dm, .int si, .int mu, .int th, .int lin, .int oc, .int od]))] sz) := by
  refine c_ofW (own := RMod) (by decide) rfl (fun p e s m below meth c hsz hx hb hr hml hown ht hlk hin hP hK hD hmb => ?_)
  subst hsz
  generalize hAe : va_A [(h0, .inr (6, [.ref f1, .ref f2, .ref f3, .ref f4, .ref f5, .ref f6, .ref f7, .ref f8, .ref f9, .ref f10, .ref f11, .ref n1, .ref n2, .ref n3, .ref n4, .int sm, .int ln, .int tt, .int cm, .int dm, .int si, .int mu, .int th, .int lin, .int oc, .int od]))] s.heap.size = A at hD ⊢
  have hA : ∀ q : Nat, s.heap.size ≤ q → A q := fun q h => by rw [← hAe]; exact Or.inr h
  have hS : va_S A s.heap s.heap [] := va_S.rf
  have hl := lv_entry ([.ref h0, .int k]) (n := 2) (Nat.le_of_ble_eq_true rfl)
  rw [lg_entry_eq]
  generalize (lg_sl ([.ref h0, .int k]) ++ List.replicate (2 - (lg_sl ([.ref h0, .int k])).length) Slot.unset).toArray = ls at hl ⊢
  have hl : lv_has ls 2 [(0, .ref h0), (1, .int k)] := hl
  refine lv_iload_n hx hb dMod_code_0 rfl (lv_at hl 1 rfl) ?_
  refine lv_iconst (v := 0) hx hb dMod_code_1 (by decide) ?_
  refine lv_bipush (v := 6) hx hb dMod_code_2 (by decide) ?_
  refine q_i (wc := []) (wr := [(h0, .inr (6, [.ref f1, .ref f2, .ref f3, .ref f4, .ref f5, .ref f6, .ref f7, .ref f8, .ref f9, .ref f10, .ref f11, .ref n1, .ref n2, .ref n3, .ref n4, .int sm, .int ln, .int tt, .int cm, .int dm, .int si, .int mu, .int th, .int lin, .int oc, .int od]))]) [] [0] hK hP hD hS hA rfl rfl (by decide) (by decide) (va_runS (As := [.int k, .int 0, .int 6]) (rest := []) ⟨hx, hb, hml, hown, ht⟩ (c_Mod_in l D cF cI s.heap.size k 0 6) (va_cwS 3 ht (g_S km_Mod_141 ks_Mod_in kI_Mod kc_Mod_in) rfl rfl rfl (by decide +kernel) ⟨Nat.le_of_ble_eq_true rfl, Nat.le_of_ble_eq_true rfl⟩) (cPre_S hK hmb (hP.sub (ws' := []) [] rfl) (hD.sub (ws' := []) [] (by decide) rfl)) rfl rfl hl.1 rfl (lv_room (Nat.le_of_ble_eq_true rfl)) dMod_code_4 ⟨Nat.le_of_ble_eq_true rfl, Nat.le_of_ble_eq_true rfl⟩) (fun r1 u2 H locs w3 hP hD hS => ?_)
  subst w3
  have hP : va_P D vwCl [(h0, .inr (6, [.ref f1, .ref f2, .ref f3, .ref f4, .ref f5, .ref f6, .ref f7, .ref f8, .ref f9, .ref f10, .ref f11, .ref n1, .ref n2, .ref n3, .ref n4, .int sm, .int ln, .int tt, .int cm, .int dm, .int si, .int mu, .int th, .int lin, .int oc, .int od]))] H := hP
  have hD : va_D A [(h0, .inr (6, [.ref f1, .ref f2, .ref f3, .ref f4, .ref f5, .ref f6, .ref f7, .ref f8, .ref f9, .ref f10, .ref f11, .ref n1, .ref n2, .ref n3, .ref n4, .int sm, .int ln, .int tt, .int cm, .int dm, .int si, .int mu, .int th, .int lin, .int oc, .int od]))] := hD
  refine lv_if_ne (tgt := 16) hx hb dMod_code_7 (by decide) (fun c4 => ?_) (fun c4 => ?_)
  · exact absurd hk c4
  · refine lv_aload_n hx hb dMod_code_10 rfl (lv_at hl 0 rfl) ?_
    refine lv_iconst (v := 1) hx hb dMod_code_11 (by decide) ?_
    refine q_i (wc := [(h0, .inr (6, [.ref f1, .ref f2, .ref f3, .ref f4, .ref f5, .ref f6, .ref f7, .ref f8, .ref f9, .ref f10, .ref f11, .ref n1, .ref n2, .ref n3, .ref n4, .int sm, .int ln, .int tt, .int cm, .int dm, .int si, .int mu, .int th, .int lin, .int oc, .int od]))]) (wr := []) [0] [] hK hP hD hS hA rfl rfl (by decide) (by decide) (va_runV (As := [.int 1]) (rest := []) ⟨hx, hb, hml, hown, ht⟩ (c_Mod_fail l D cF cI H.size h0 f1 f2 f3 f4 f5 f6 f7 f8 f9 f10 f11 n1 n2 n3 n4 sm ln tt cm dm si mu th lin oc od 1) (cwV 1 ht (g_V km_Mod_64 ki_Mod_fail kv_Mod_fail kI_Mod kc_Mod_fail) rfl rfl rfl (by decide +kernel) ⟨Nat.le_of_ble_eq_true rfl, Nat.le_of_ble_eq_true rfl⟩) (cPre_V (ci := 6) (q0 := 0) hK hmb (hP.sub (ws' := [(h0, .inr (6, [.ref f1, .ref f2, .ref f3, .ref f4, .ref f5, .ref f6, .ref f7, .ref f8, .ref f9, .ref f10, .ref f11, .ref n1, .ref n2, .ref n3, .ref n4, .int sm, .int ln, .int tt, .int cm, .int dm, .int si, .int mu, .int th, .int lin, .int oc, .int od]))]) [0] rfl) (hD.sub (ws' := [(h0, .inr (6, [.ref f1, .ref f2, .ref f3, .ref f4, .ref f5, .ref f6, .ref f7, .ref f8, .ref f9, .ref f10, .ref f11, .ref n1, .ref n2, .ref n3, .ref n4, .int sm, .int ln, .int tt, .int cm, .int dm, .int si, .int mu, .int th, .int lin, .int oc, .int od]))]) [0] (by decide) rfl) rfl rfl) rfl rfl hl.1 rfl (lv_room (Nat.le_of_ble_eq_true rfl)) dMod_code_12 ⟨Nat.le_of_ble_eq_true rfl, Nat.le_of_ble_eq_true rfl⟩) (fun r5 u6 H locs w7 hP hD hS => ?_)
    subst w7
    have hP : va_P D vwCl [(h0, .inr (6, [.ref f1, .ref f2, .ref f3, .ref f4, .ref f5, .ref f6, .ref f7, .ref f8, .ref f9, .ref f10, .ref f11, .ref n1, .ref n2, .ref n3, .ref n4, .int sm, .int ln, .int tt, .int cm, .int dm, .int si, .int mu, .int 1, .int lin, .int oc, .int od]))] H := hP
    have hD : va_D A [(h0, .inr (6, [.ref f1, .ref f2, .ref f3, .ref f4, .ref f5, .ref f6, .ref f7, .ref f8, .ref f9, .ref f10, .ref f11, .ref n1, .ref n2, .ref n3, .ref n4, .int sm, .int ln, .int tt, .int cm, .int dm, .int si, .int mu, .int 1, .int lin, .int oc, .int od]))] := hD
    have hP := hP.sub (ws' := [(h0, .inr (6, [.ref f1, .ref f2, .ref f3, .ref f4, .ref f5, .ref f6, .ref f7, .ref f8, .ref f9, .ref f10, .ref f11, .ref n1, .ref n2, .ref n3, .ref n4, .int sm, .int ln, .int tt, .int cm, .int dm, .int si, .int mu, .int 1, .int lin, .int oc, .int od]))]) [0] rfl
    have hD := hD.sub (ws' := [(h0, .inr (6, [.ref f1, .ref f2, .ref f3, .ref f4, .ref f5, .ref f6, .ref f7, .ref f8, .ref f9, .ref f10, .ref f11, .ref n1, .ref n2, .ref n3, .ref n4, .int sm, .int ln, .int tt, .int cm, .int dm, .int si, .int mu, .int 1, .int lin, .int oc, .int od]))]) [0] (by decide) rfl
    exact e_i () hx hb hr hlk hK hP hD hS rfl rfl dMod_code_15

set_option maxHeartbeats 4000000 in
set_option maxRecDepth 100000 in
theorem c_Mod_stream_L (l : Launch) (D : va_G) (cF cI : ClassId) (sz : Nat) (h0 f1 f2 f3 f4 f5 f6 f7 f8 f9 f10 f11 n1 n2 n3 n4 : Nat) (sm : Int32) (ln : Int32) (tt : Int32) (cm : Int32) (dm : Int32) (si : Int32) (mu : Int32) (th : Int32) (lin : Int32) (oc : Int32) (od : Int32) (hk : ¬ m_in (-1) (-1) (ln - 1) = 0) : Met l yMod_stream (.code yMod_stream cMod_stream 2 (some .int) :: TB) ({ frames := 1, cells := 0, slots := 0, locals := 22 }) (va_Pc [.ref h0, .int (-1)] (cPre D cF cI [(h0, .inr (6, [.ref f1, .ref f2, .ref f3, .ref f4, .ref f5, .ref f6, .ref f7, .ref f8, .ref f9, .ref f10, .ref f11, .ref n1, .ref n2, .ref n3, .ref n4, .int sm, .int ln, .int tt, .int cm, .int dm, .int si, .int mu, .int th, .int lin, .int oc, .int od]))] sz)) (va_Qi (fun (r : Int32) (_ : Unit) => r = ln) (cB D cF cI (va_A [(h0, .inr (6, [.ref f1, .ref f2, .ref f3, .ref f4, .ref f5, .ref f6, .ref f7, .ref f8, .ref f9, .ref f10, .ref f11, .ref n1, .ref n2, .ref n3, .ref n4, .int sm, .int ln, .int tt, .int cm, .int dm, .int si, .int mu, .int th, .int lin, .int oc, .int od]))] sz) (fun _ : Unit => [(h0, .inr (6, [.ref f1, .ref f2, .ref f3, .ref f4, .ref f5, .ref f6, .ref f7, .ref f8, .ref f9, .ref f10, .ref f11, .ref n1, .ref n2, .ref n3, .ref n4, .int sm, .int ln, .int tt, .int cm, .int dm, .int si, .int mu, .int 0, .int lin, .int oc, .int od]))])) (va_A [(h0, .inr (6, [.ref f1, .ref f2, .ref f3, .ref f4, .ref f5, .ref f6, .ref f7, .ref f8, .ref f9, .ref f10, .ref f11, .ref n1, .ref n2, .ref n3, .ref n4, .int sm, .int ln, .int tt, .int cm, .int dm, .int si, .int mu, .int th, .int lin, .int oc, .int od]))] sz)) 0 0 (va_A [(h0, .inr (6, [.ref f1, .ref f2, .ref f3, .ref f4, .ref f5, .ref f6, .ref f7, .ref f8, .ref f9, .ref f10, .ref f11, .ref n1, .ref n2, .ref n3, .ref n4, .int sm, .int ln, .int tt, .int cm, .int dm, .int si, .int mu, .int th, .int lin, .int oc, .int od]))] sz) := by
  refine c_ofW (own := RMod) (by decide) rfl (fun p e s m below meth c hsz hx hb hr hml hown ht hlk hin hP hK hD hmb => ?_)
  subst hsz
  generalize hAe : va_A [(h0, .inr (6, [.ref f1, .ref f2, .ref f3, .ref f4, .ref f5, .ref f6, .ref f7, .ref f8, .ref f9, .ref f10, .ref f11, .ref n1, .ref n2, .ref n3, .ref n4, .int sm, .int ln, .int tt, .int cm, .int dm, .int si, .int mu, .int th, .int lin, .int oc, .int od]))] s.heap.size = A at hD ⊢
  have hA : ∀ q : Nat, s.heap.size ≤ q → A q := fun q h => by rw [← hAe]; exact Or.inr h
  have hS : va_S A s.heap s.heap [] := va_S.rf
  have hl := lv_entry ([.ref h0, .int (-1)]) (n := 2) (Nat.le_of_ble_eq_true rfl)
  rw [lg_entry_eq]
  generalize (lg_sl ([.ref h0, .int (-1)]) ++ List.replicate (2 - (lg_sl ([.ref h0, .int (-1)])).length) Slot.unset).toArray = ls at hl ⊢
  have hl : lv_has ls 2 [(0, .ref h0), (1, .int (-1))] := hl
  refine lv_aload_n hx hb dMod_stream_0 rfl (lv_at hl 0 rfl) ?_
  refine lv_iload_n hx hb dMod_stream_1 rfl (lv_at hl 1 rfl) ?_
  refine lv_iconst (v := (-1)) hx hb dMod_stream_2 (by decide) ?_
  refine lv_aload_n hx hb dMod_stream_3 rfl (lv_at hl 0 rfl) ?_
  refine va_get (D := D) (ci := 6) (v := .int ln) hx hb ht inMod hown hK hP 0 rfl rfl 16 (by decide) (ht _ kf_Mod_104) (fun _ h9 => h9) rfl dMod_stream_4 ?_
  refine lv_iconst (v := 1) hx hb dMod_stream_7 (by decide) ?_
  refine k_isub (v := ln - 1) hx hb dMod_stream_8 rfl ?_
  refine q_i (wc := []) (wr := [(h0, .inr (6, [.ref f1, .ref f2, .ref f3, .ref f4, .ref f5, .ref f6, .ref f7, .ref f8, .ref f9, .ref f10, .ref f11, .ref n1, .ref n2, .ref n3, .ref n4, .int sm, .int ln, .int tt, .int cm, .int dm, .int si, .int mu, .int th, .int lin, .int oc, .int od]))]) [] [0] hK hP hD hS hA rfl rfl (by decide) (by decide) (va_runS (As := [.int (-1), .int (-1), .int (ln - 1)]) (rest := [.ref h0]) ⟨hx, hb, hml, hown, ht⟩ (c_Mod_in l D cF cI s.heap.size (-1) (-1) (ln - 1)) (va_cwS 3 ht (g_S km_Mod_141 ks_Mod_in kI_Mod kc_Mod_in) rfl rfl rfl (by decide +kernel) ⟨Nat.le_of_ble_eq_true rfl, Nat.le_of_ble_eq_true rfl⟩) (cPre_S hK hmb (hP.sub (ws' := []) [] rfl) (hD.sub (ws' := []) [] (by decide) rfl)) rfl rfl hl.1 rfl (lv_room (Nat.le_of_ble_eq_true rfl)) dMod_stream_9 ⟨Nat.le_of_ble_eq_true rfl, Nat.le_of_ble_eq_true rfl⟩) (fun r1 u2 H locs w3 hP hD hS => ?_)
  subst w3
  have hP : va_P D vwCl [(h0, .inr (6, [.ref f1, .ref f2, .ref f3, .ref f4, .ref f5, .ref f6, .ref f7, .ref f8, .ref f9, .ref f10, .ref f11, .ref n1, .ref n2, .ref n3, .ref n4, .int sm, .int ln, .int tt, .int cm, .int dm, .int si, .int mu, .int th, .int lin, .int oc, .int od]))] H := hP
  have hD : va_D A [(h0, .inr (6, [.ref f1, .ref f2, .ref f3, .ref f4, .ref f5, .ref f6, .ref f7, .ref f8, .ref f9, .ref f10, .ref f11, .ref n1, .ref n2, .ref n3, .ref n4, .int sm, .int ln, .int tt, .int cm, .int dm, .int si, .int mu, .int th, .int lin, .int oc, .int od]))] := hD
  refine lv_if_eq (tgt := 19) hx hb dMod_stream_12 (by decide) (fun c4 => ?_) (fun c4 => ?_)
  · exact absurd c4 hk
  · refine lv_iconst (v := 0) hx hb dMod_stream_15 (by decide) ?_
    refine lv_goto (tgt := 20) hx hb dMod_stream_16 (by decide) ?_
    refine va_put (D := D) (ci := 6) (v := .int 0) (ty := .int) hx hb ht inMod tMod tMod_ok nMod hown hK hP hD hS 0 rfl rfl 22 (by decide) (ht _ kf_Mod_56) (fun _ h9 => h9) rfl (by decide +kernel) rfl rfl (Nat.le_of_ble_eq_true rfl) dMod_stream_20 (fun H locs hP hD hS => ?_)
    have hP : va_P D vwCl [(h0, .inr (6, [.ref f1, .ref f2, .ref f3, .ref f4, .ref f5, .ref f6, .ref f7, .ref f8, .ref f9, .ref f10, .ref f11, .ref n1, .ref n2, .ref n3, .ref n4, .int sm, .int ln, .int tt, .int cm, .int dm, .int si, .int mu, .int 0, .int lin, .int oc, .int od]))] H := hP
    have hD : va_D A [(h0, .inr (6, [.ref f1, .ref f2, .ref f3, .ref f4, .ref f5, .ref f6, .ref f7, .ref f8, .ref f9, .ref f10, .ref f11, .ref n1, .ref n2, .ref n3, .ref n4, .int sm, .int ln, .int tt, .int cm, .int dm, .int si, .int mu, .int 0, .int lin, .int oc, .int od]))] := hD
    refine lv_aload_n hx hb dMod_stream_23 rfl (lv_at hl 0 rfl) ?_
    refine va_get (D := D) (ci := 6) (v := .int 0) hx hb ht inMod hown hK hP 0 rfl rfl 22 (by decide) (ht _ kf_Mod_56) (fun _ h9 => h9) rfl dMod_stream_24 ?_
    refine lv_if_le (tgt := 34) hx hb dMod_stream_27 (by decide) (fun _ => ?_) (fun c9 => absurd (by decide) c9)
    refine lv_iload_n hx hb dMod_stream_34 rfl (lv_at hl 1 rfl) ?_
    refine lv_if_ge (tgt := 45) hx hb dMod_stream_35 (by decide) (fun c9 => absurd c9 (by decide)) (fun _ => ?_)
    refine lv_aload_n hx hb dMod_stream_38 rfl (lv_at hl 0 rfl) ?_
    refine va_get (D := D) (ci := 6) (v := .int ln) hx hb ht inMod hown hK hP 0 rfl rfl 16 (by decide) (ht _ kf_Mod_104) (fun _ h9 => h9) rfl dMod_stream_39 ?_
    refine lv_goto (tgt := 51) hx hb dMod_stream_42 (by decide) ?_
    have hP := hP.sub (ws' := [(h0, .inr (6, [.ref f1, .ref f2, .ref f3, .ref f4, .ref f5, .ref f6, .ref f7, .ref f8, .ref f9, .ref f10, .ref f11, .ref n1, .ref n2, .ref n3, .ref n4, .int sm, .int ln, .int tt, .int cm, .int dm, .int si, .int mu, .int 0, .int lin, .int oc, .int od]))]) [0] rfl
    have hD := hD.sub (ws' := [(h0, .inr (6, [.ref f1, .ref f2, .ref f3, .ref f4, .ref f5, .ref f6, .ref f7, .ref f8, .ref f9, .ref f10, .ref f11, .ref n1, .ref n2, .ref n3, .ref n4, .int sm, .int ln, .int tt, .int cm, .int dm, .int si, .int mu, .int 0, .int lin, .int oc, .int od]))]) [0] (by decide) rfl
    exact e_i () hx hb hr hlk hK hP hD hS rfl rfl dMod_stream_51

set_option maxHeartbeats 4000000 in
set_option maxRecDepth 100000 in
theorem c_Mod_stream_B (l : Launch) (D : va_G) (cF cI : ClassId) (sz : Nat) (h0 f1 f2 f3 f4 f5 f6 f7 f8 f9 f10 f11 n1 n2 n3 n4 : Nat) (sm : Int32) (ln : Int32) (tt : Int32) (cm : Int32) (dm : Int32) (si : Int32) (mu : Int32) (th : Int32) (lin : Int32) (oc : Int32) (od : Int32) (f : Nat → Int32) (k : Int32) (hk : ¬ m_in k (-1) (ln - 1) = 0) (hk0 : 0 ≤ k) (hin9 : vp_in k 120) : Met l yMod_stream (.code yMod_stream cMod_stream 2 (some .int) :: TB) ({ frames := 1, cells := 0, slots := 0, locals := 22 }) (va_Pc [.ref h0, .int k] (cPre D cF cI [(h0, .inr (6, [.ref f1, .ref f2, .ref f3, .ref f4, .ref f5, .ref f6, .ref f7, .ref f8, .ref f9, .ref f10, .ref f11, .ref n1, .ref n2, .ref n3, .ref n4, .int sm, .int ln, .int tt, .int cm, .int dm, .int si, .int mu, .int th, .int lin, .int oc, .int od])), (n1, .inl (cI, 120, .inl f))] sz)) (va_Qi (fun (r : Int32) (_ : Unit) => r = f k.toNatClampNeg) (cB D cF cI (va_A [(h0, .inr (6, [.ref f1, .ref f2, .ref f3, .ref f4, .ref f5, .ref f6, .ref f7, .ref f8, .ref f9, .ref f10, .ref f11, .ref n1, .ref n2, .ref n3, .ref n4, .int sm, .int ln, .int tt, .int cm, .int dm, .int si, .int mu, .int th, .int lin, .int oc, .int od])), (n1, .inl (cI, 120, .inl f))] sz) (fun _ : Unit => [(h0, .inr (6, [.ref f1, .ref f2, .ref f3, .ref f4, .ref f5, .ref f6, .ref f7, .ref f8, .ref f9, .ref f10, .ref f11, .ref n1, .ref n2, .ref n3, .ref n4, .int sm, .int ln, .int tt, .int cm, .int dm, .int si, .int mu, .int 0, .int lin, .int oc, .int od])), (n1, .inl (cI, 120, .inl f))])) (va_A [(h0, .inr (6, [.ref f1, .ref f2, .ref f3, .ref f4, .ref f5, .ref f6, .ref f7, .ref f8, .ref f9, .ref f10, .ref f11, .ref n1, .ref n2, .ref n3, .ref n4, .int sm, .int ln, .int tt, .int cm, .int dm, .int si, .int mu, .int th, .int lin, .int oc, .int od])), (n1, .inl (cI, 120, .inl f))] sz)) 0 0 (va_A [(h0, .inr (6, [.ref f1, .ref f2, .ref f3, .ref f4, .ref f5, .ref f6, .ref f7, .ref f8, .ref f9, .ref f10, .ref f11, .ref n1, .ref n2, .ref n3, .ref n4, .int sm, .int ln, .int tt, .int cm, .int dm, .int si, .int mu, .int th, .int lin, .int oc, .int od])), (n1, .inl (cI, 120, .inl f))] sz) := by
  refine c_ofW (own := RMod) (by decide) rfl (fun p e s m below meth c hsz hx hb hr hml hown ht hlk hin hP hK hD hmb => ?_)
  subst hsz
  generalize hAe : va_A [(h0, .inr (6, [.ref f1, .ref f2, .ref f3, .ref f4, .ref f5, .ref f6, .ref f7, .ref f8, .ref f9, .ref f10, .ref f11, .ref n1, .ref n2, .ref n3, .ref n4, .int sm, .int ln, .int tt, .int cm, .int dm, .int si, .int mu, .int th, .int lin, .int oc, .int od])), (n1, .inl (cI, 120, .inl f))] s.heap.size = A at hD ⊢
  have hA : ∀ q : Nat, s.heap.size ≤ q → A q := fun q h => by rw [← hAe]; exact Or.inr h
  have hS : va_S A s.heap s.heap [] := va_S.rf
  have hl := lv_entry ([.ref h0, .int k]) (n := 2) (Nat.le_of_ble_eq_true rfl)
  rw [lg_entry_eq]
  generalize (lg_sl ([.ref h0, .int k]) ++ List.replicate (2 - (lg_sl ([.ref h0, .int k])).length) Slot.unset).toArray = ls at hl ⊢
  have hl : lv_has ls 2 [(0, .ref h0), (1, .int k)] := hl
  refine lv_aload_n hx hb dMod_stream_0 rfl (lv_at hl 0 rfl) ?_
  refine lv_iload_n hx hb dMod_stream_1 rfl (lv_at hl 1 rfl) ?_
  refine lv_iconst (v := (-1)) hx hb dMod_stream_2 (by decide) ?_
  refine lv_aload_n hx hb dMod_stream_3 rfl (lv_at hl 0 rfl) ?_
  refine va_get (D := D) (ci := 6) (v := .int ln) hx hb ht inMod hown hK hP 0 rfl rfl 16 (by decide) (ht _ kf_Mod_104) (fun _ h9 => h9) rfl dMod_stream_4 ?_
  refine lv_iconst (v := 1) hx hb dMod_stream_7 (by decide) ?_
  refine k_isub (v := ln - 1) hx hb dMod_stream_8 rfl ?_
  refine q_i (wc := []) (wr := [(h0, .inr (6, [.ref f1, .ref f2, .ref f3, .ref f4, .ref f5, .ref f6, .ref f7, .ref f8, .ref f9, .ref f10, .ref f11, .ref n1, .ref n2, .ref n3, .ref n4, .int sm, .int ln, .int tt, .int cm, .int dm, .int si, .int mu, .int th, .int lin, .int oc, .int od])), (n1, .inl (cI, 120, .inl f))]) [] [0, 1] hK hP hD hS hA rfl rfl (by decide) (by decide) (va_runS (As := [.int k, .int (-1), .int (ln - 1)]) (rest := [.ref h0]) ⟨hx, hb, hml, hown, ht⟩ (c_Mod_in l D cF cI s.heap.size k (-1) (ln - 1)) (va_cwS 3 ht (g_S km_Mod_141 ks_Mod_in kI_Mod kc_Mod_in) rfl rfl rfl (by decide +kernel) ⟨Nat.le_of_ble_eq_true rfl, Nat.le_of_ble_eq_true rfl⟩) (cPre_S hK hmb (hP.sub (ws' := []) [] rfl) (hD.sub (ws' := []) [] (by decide) rfl)) rfl rfl hl.1 rfl (lv_room (Nat.le_of_ble_eq_true rfl)) dMod_stream_9 ⟨Nat.le_of_ble_eq_true rfl, Nat.le_of_ble_eq_true rfl⟩) (fun r1 u2 H locs w3 hP hD hS => ?_)
  subst w3
  have hP : va_P D vwCl [(h0, .inr (6, [.ref f1, .ref f2, .ref f3, .ref f4, .ref f5, .ref f6, .ref f7, .ref f8, .ref f9, .ref f10, .ref f11, .ref n1, .ref n2, .ref n3, .ref n4, .int sm, .int ln, .int tt, .int cm, .int dm, .int si, .int mu, .int th, .int lin, .int oc, .int od])), (n1, .inl (cI, 120, .inl f))] H := hP
  have hD : va_D A [(h0, .inr (6, [.ref f1, .ref f2, .ref f3, .ref f4, .ref f5, .ref f6, .ref f7, .ref f8, .ref f9, .ref f10, .ref f11, .ref n1, .ref n2, .ref n3, .ref n4, .int sm, .int ln, .int tt, .int cm, .int dm, .int si, .int mu, .int th, .int lin, .int oc, .int od])), (n1, .inl (cI, 120, .inl f))] := hD
  refine lv_if_eq (tgt := 19) hx hb dMod_stream_12 (by decide) (fun c4 => ?_) (fun c4 => ?_)
  · exact absurd c4 hk
  · refine lv_iconst (v := 0) hx hb dMod_stream_15 (by decide) ?_
    refine lv_goto (tgt := 20) hx hb dMod_stream_16 (by decide) ?_
    refine va_put (D := D) (ci := 6) (v := .int 0) (ty := .int) hx hb ht inMod tMod tMod_ok nMod hown hK hP hD hS 0 rfl rfl 22 (by decide) (ht _ kf_Mod_56) (fun _ h9 => h9) rfl (by decide +kernel) rfl rfl (Nat.le_of_ble_eq_true rfl) dMod_stream_20 (fun H locs hP hD hS => ?_)
    have hP : va_P D vwCl [(h0, .inr (6, [.ref f1, .ref f2, .ref f3, .ref f4, .ref f5, .ref f6, .ref f7, .ref f8, .ref f9, .ref f10, .ref f11, .ref n1, .ref n2, .ref n3, .ref n4, .int sm, .int ln, .int tt, .int cm, .int dm, .int si, .int mu, .int 0, .int lin, .int oc, .int od])), (n1, .inl (cI, 120, .inl f))] H := hP
    have hD : va_D A [(h0, .inr (6, [.ref f1, .ref f2, .ref f3, .ref f4, .ref f5, .ref f6, .ref f7, .ref f8, .ref f9, .ref f10, .ref f11, .ref n1, .ref n2, .ref n3, .ref n4, .int sm, .int ln, .int tt, .int cm, .int dm, .int si, .int mu, .int 0, .int lin, .int oc, .int od])), (n1, .inl (cI, 120, .inl f))] := hD
    refine lv_aload_n hx hb dMod_stream_23 rfl (lv_at hl 0 rfl) ?_
    refine va_get (D := D) (ci := 6) (v := .int 0) hx hb ht inMod hown hK hP 0 rfl rfl 22 (by decide) (ht _ kf_Mod_56) (fun _ h9 => h9) rfl dMod_stream_24 ?_
    refine lv_if_le (tgt := 34) hx hb dMod_stream_27 (by decide) (fun _ => ?_) (fun c9 => absurd (by decide) c9)
    refine lv_iload_n hx hb dMod_stream_34 rfl (lv_at hl 1 rfl) ?_
    refine lv_if_ge (tgt := 45) hx hb dMod_stream_35 (by decide) (fun c6 => ?_) (fun c6 => ?_)
    · refine lv_aload_n hx hb dMod_stream_45 rfl (lv_at hl 0 rfl) ?_
      refine va_get (D := D) (ci := 6) (v := .ref n1) hx hb ht inMod hown hK hP 0 rfl rfl 11 (by decide) (ht _ kf_Mod_43) (fun _ h9 => h9) rfl dMod_stream_46 ?_
      refine lv_iload_n hx hb dMod_stream_49 rfl (lv_at hl 1 rfl) ?_
      refine k_iald (j := k.toNatClampNeg) hx hb hK hP 1 1 rfl rfl hin9 rfl dMod_stream_50 ?_
      have hP := hP.sub (ws' := [(h0, .inr (6, [.ref f1, .ref f2, .ref f3, .ref f4, .ref f5, .ref f6, .ref f7, .ref f8, .ref f9, .ref f10, .ref f11, .ref n1, .ref n2, .ref n3, .ref n4, .int sm, .int ln, .int tt, .int cm, .int dm, .int si, .int mu, .int 0, .int lin, .int oc, .int od])), (n1, .inl (cI, 120, .inl f))]) [0, 1] rfl
      have hD := hD.sub (ws' := [(h0, .inr (6, [.ref f1, .ref f2, .ref f3, .ref f4, .ref f5, .ref f6, .ref f7, .ref f8, .ref f9, .ref f10, .ref f11, .ref n1, .ref n2, .ref n3, .ref n4, .int sm, .int ln, .int tt, .int cm, .int dm, .int si, .int mu, .int 0, .int lin, .int oc, .int od])), (n1, .inl (cI, 120, .inl f))]) [0, 1] (by decide) rfl
      exact e_i () hx hb hr hlk hK hP hD hS rfl rfl dMod_stream_51
    · exact absurd hk0 c6

set_option maxHeartbeats 4000000 in
set_option maxRecDepth 100000 in
theorem c_Mod_stream_X (l : Launch) (D : va_G) (cF cI : ClassId) (sz : Nat) (h0 f1 f2 f3 f4 f5 f6 f7 f8 f9 f10 f11 n1 n2 n3 n4 : Nat) (sm : Int32) (ln : Int32) (tt : Int32) (cm : Int32) (dm : Int32) (si : Int32) (mu : Int32) (th : Int32) (lin : Int32) (oc : Int32) (od : Int32) (k : Int32) (hk : m_in k (-1) (ln - 1) = 0) : Met l yMod_stream (.code yMod_stream cMod_stream 2 (some .int) :: TB) ({ frames := 1, cells := 0, slots := 0, locals := 22 }) (va_Pc [.ref h0, .int k] (cPre D cF cI [(h0, .inr (6, [.ref f1, .ref f2, .ref f3, .ref f4, .ref f5, .ref f6, .ref f7, .ref f8, .ref f9, .ref f10, .ref f11, .ref n1, .ref n2, .ref n3, .ref n4, .int sm, .int ln, .int tt, .int cm, .int dm, .int si, .int mu, .int th, .int lin, .int oc, .int od]))] sz)) (va_Qi (fun (r : Int32) (_ : Unit) => r = 0) (cB D cF cI (va_A [(h0, .inr (6, [.ref f1, .ref f2, .ref f3, .ref f4, .ref f5, .ref f6, .ref f7, .ref f8, .ref f9, .ref f10, .ref f11, .ref n1, .ref n2, .ref n3, .ref n4, .int sm, .int ln, .int tt, .int cm, .int dm, .int si, .int mu, .int th, .int lin, .int oc, .int od]))] sz) (fun _ : Unit => [(h0, .inr (6, [.ref f1, .ref f2, .ref f3, .ref f4, .ref f5, .ref f6, .ref f7, .ref f8, .ref f9, .ref f10, .ref f11, .ref n1, .ref n2, .ref n3, .ref n4, .int sm, .int ln, .int tt, .int cm, .int dm, .int si, .int mu, .int 1, .int lin, .int oc, .int od]))])) (va_A [(h0, .inr (6, [.ref f1, .ref f2, .ref f3, .ref f4, .ref f5, .ref f6, .ref f7, .ref f8, .ref f9, .ref f10, .ref f11, .ref n1, .ref n2, .ref n3, .ref n4, .int sm, .int ln, .int tt, .int cm, .int dm, .int si, .int mu, .int th, .int lin, .int oc, .int od]))] sz)) 0 0 (va_A [(h0, .inr (6, [.ref f1, .ref f2, .ref f3, .ref f4, .ref f5, .ref f6, .ref f7, .ref f8, .ref f9, .ref f10, .ref f11, .ref n1, .ref n2, .ref n3, .ref n4, .int sm, .int ln, .int tt, .int cm, .int dm, .int si, .int mu, .int th, .int lin, .int oc, .int od]))] sz) := by
  refine c_ofW (own := RMod) (by decide) rfl (fun p e s m below meth c hsz hx hb hr hml hown ht hlk hin hP hK hD hmb => ?_)
  subst hsz
  generalize hAe : va_A [(h0, .inr (6, [.ref f1, .ref f2, .ref f3, .ref f4, .ref f5, .ref f6, .ref f7, .ref f8, .ref f9, .ref f10, .ref f11, .ref n1, .ref n2, .ref n3, .ref n4, .int sm, .int ln, .int tt, .int cm, .int dm, .int si, .int mu, .int th, .int lin, .int oc, .int od]))] s.heap.size = A at hD ⊢
  have hA : ∀ q : Nat, s.heap.size ≤ q → A q := fun q h => by rw [← hAe]; exact Or.inr h
  have hS : va_S A s.heap s.heap [] := va_S.rf
  have hl := lv_entry ([.ref h0, .int k]) (n := 2) (Nat.le_of_ble_eq_true rfl)
  rw [lg_entry_eq]
  generalize (lg_sl ([.ref h0, .int k]) ++ List.replicate (2 - (lg_sl ([.ref h0, .int k])).length) Slot.unset).toArray = ls at hl ⊢
  have hl : lv_has ls 2 [(0, .ref h0), (1, .int k)] := hl
  refine lv_aload_n hx hb dMod_stream_0 rfl (lv_at hl 0 rfl) ?_
  refine lv_iload_n hx hb dMod_stream_1 rfl (lv_at hl 1 rfl) ?_
  refine lv_iconst (v := (-1)) hx hb dMod_stream_2 (by decide) ?_
  refine lv_aload_n hx hb dMod_stream_3 rfl (lv_at hl 0 rfl) ?_
  refine va_get (D := D) (ci := 6) (v := .int ln) hx hb ht inMod hown hK hP 0 rfl rfl 16 (by decide) (ht _ kf_Mod_104) (fun _ h9 => h9) rfl dMod_stream_4 ?_
  refine lv_iconst (v := 1) hx hb dMod_stream_7 (by decide) ?_
  refine k_isub (v := ln - 1) hx hb dMod_stream_8 rfl ?_
  refine q_i (wc := []) (wr := [(h0, .inr (6, [.ref f1, .ref f2, .ref f3, .ref f4, .ref f5, .ref f6, .ref f7, .ref f8, .ref f9, .ref f10, .ref f11, .ref n1, .ref n2, .ref n3, .ref n4, .int sm, .int ln, .int tt, .int cm, .int dm, .int si, .int mu, .int th, .int lin, .int oc, .int od]))]) [] [0] hK hP hD hS hA rfl rfl (by decide) (by decide) (va_runS (As := [.int k, .int (-1), .int (ln - 1)]) (rest := [.ref h0]) ⟨hx, hb, hml, hown, ht⟩ (c_Mod_in l D cF cI s.heap.size k (-1) (ln - 1)) (va_cwS 3 ht (g_S km_Mod_141 ks_Mod_in kI_Mod kc_Mod_in) rfl rfl rfl (by decide +kernel) ⟨Nat.le_of_ble_eq_true rfl, Nat.le_of_ble_eq_true rfl⟩) (cPre_S hK hmb (hP.sub (ws' := []) [] rfl) (hD.sub (ws' := []) [] (by decide) rfl)) rfl rfl hl.1 rfl (lv_room (Nat.le_of_ble_eq_true rfl)) dMod_stream_9 ⟨Nat.le_of_ble_eq_true rfl, Nat.le_of_ble_eq_true rfl⟩) (fun r1 u2 H locs w3 hP hD hS => ?_)
  subst w3
  have hP : va_P D vwCl [(h0, .inr (6, [.ref f1, .ref f2, .ref f3, .ref f4, .ref f5, .ref f6, .ref f7, .ref f8, .ref f9, .ref f10, .ref f11, .ref n1, .ref n2, .ref n3, .ref n4, .int sm, .int ln, .int tt, .int cm, .int dm, .int si, .int mu, .int th, .int lin, .int oc, .int od]))] H := hP
  have hD : va_D A [(h0, .inr (6, [.ref f1, .ref f2, .ref f3, .ref f4, .ref f5, .ref f6, .ref f7, .ref f8, .ref f9, .ref f10, .ref f11, .ref n1, .ref n2, .ref n3, .ref n4, .int sm, .int ln, .int tt, .int cm, .int dm, .int si, .int mu, .int th, .int lin, .int oc, .int od]))] := hD
  refine lv_if_eq (tgt := 19) hx hb dMod_stream_12 (by decide) (fun c4 => ?_) (fun c4 => ?_)
  · refine lv_iconst (v := 1) hx hb dMod_stream_19 (by decide) ?_
    refine va_put (D := D) (ci := 6) (v := .int 1) (ty := .int) hx hb ht inMod tMod tMod_ok nMod hown hK hP hD hS 0 rfl rfl 22 (by decide) (ht _ kf_Mod_56) (fun _ h9 => h9) rfl (by decide +kernel) rfl rfl (Nat.le_of_ble_eq_true rfl) dMod_stream_20 (fun H locs hP hD hS => ?_)
    have hP : va_P D vwCl [(h0, .inr (6, [.ref f1, .ref f2, .ref f3, .ref f4, .ref f5, .ref f6, .ref f7, .ref f8, .ref f9, .ref f10, .ref f11, .ref n1, .ref n2, .ref n3, .ref n4, .int sm, .int ln, .int tt, .int cm, .int dm, .int si, .int mu, .int 1, .int lin, .int oc, .int od]))] H := hP
    have hD : va_D A [(h0, .inr (6, [.ref f1, .ref f2, .ref f3, .ref f4, .ref f5, .ref f6, .ref f7, .ref f8, .ref f9, .ref f10, .ref f11, .ref n1, .ref n2, .ref n3, .ref n4, .int sm, .int ln, .int tt, .int cm, .int dm, .int si, .int mu, .int 1, .int lin, .int oc, .int od]))] := hD
    refine lv_aload_n hx hb dMod_stream_23 rfl (lv_at hl 0 rfl) ?_
    refine va_get (D := D) (ci := 6) (v := .int 1) hx hb ht inMod hown hK hP 0 rfl rfl 22 (by decide) (ht _ kf_Mod_56) (fun _ h9 => h9) rfl dMod_stream_24 ?_
    refine lv_if_le (tgt := 34) hx hb dMod_stream_27 (by decide) (fun c9 => absurd c9 (by decide)) (fun _ => ?_)
    refine lv_iconst (v := 0) hx hb dMod_stream_30 (by decide) ?_
    refine lv_goto (tgt := 51) hx hb dMod_stream_31 (by decide) ?_
    have hP := hP.sub (ws' := [(h0, .inr (6, [.ref f1, .ref f2, .ref f3, .ref f4, .ref f5, .ref f6, .ref f7, .ref f8, .ref f9, .ref f10, .ref f11, .ref n1, .ref n2, .ref n3, .ref n4, .int sm, .int ln, .int tt, .int cm, .int dm, .int si, .int mu, .int 1, .int lin, .int oc, .int od]))]) [0] rfl
    have hD := hD.sub (ws' := [(h0, .inr (6, [.ref f1, .ref f2, .ref f3, .ref f4, .ref f5, .ref f6, .ref f7, .ref f8, .ref f9, .ref f10, .ref f11, .ref n1, .ref n2, .ref n3, .ref n4, .int sm, .int ln, .int tt, .int cm, .int dm, .int si, .int mu, .int 1, .int lin, .int oc, .int od]))]) [0] (by decide) rfl
    exact e_i () hx hb hr hlk hK hP hD hS rfl rfl dMod_stream_51
  · exact absurd hk c4

set_option maxHeartbeats 4000000 in
set_option maxRecDepth 100000 in
theorem c_Mod_damage_R (l : Launch) (D : va_G) (cF cI : ClassId) (sz : Nat) (h0 f1 f2 f3 f4 f5 f6 f7 f8 f9 f10 f11 n1 n2 n3 n4 : Nat) (sm : Int32) (ln : Int32) (tt : Int32) (cm : Int32) (dm : Int32) (si : Int32) (mu : Int32) (th : Int32) (lin : Int32) (oc : Int32) (od : Int32) (f : Nat → Int32) (k : Int32) (b : Int32) (hk1 : ¬ m_in b 0 255 = 0) (hk2 : ¬ m_in k 0 (ln - 1) = 0) (hin9 : vp_in k 120) : Met l yMod_damage (.code yMod_damage cMod_damage 4 (some .int) :: TB) ({ frames := 1, cells := 0, slots := 0, locals := 22 }) (va_Pc [.ref h0, .int k, .int b] (cPre D cF cI [(h0, .inr (6, [.ref f1, .ref f2, .ref f3, .ref f4, .ref f5, .ref f6, .ref f7, .ref f8, .ref f9, .ref f10, .ref f11, .ref n1, .ref n2, .ref n3, .ref n4, .int sm, .int ln, .int tt, .int cm, .int dm, .int si, .int mu, .int th, .int lin, .int oc, .int od])), (n1, .inl (cI, 120, .inl f))] sz)) (va_Qi (fun (r : Int32) (_ : Unit) => r = f k.toNatClampNeg) (cB D cF cI (va_A [(h0, .inr (6, [.ref f1, .ref f2, .ref f3, .ref f4, .ref f5, .ref f6, .ref f7, .ref f8, .ref f9, .ref f10, .ref f11, .ref n1, .ref n2, .ref n3, .ref n4, .int sm, .int ln, .int tt, .int cm, .int dm, .int si, .int mu, .int th, .int lin, .int oc, .int od])), (n1, .inl (cI, 120, .inl f))] sz) (fun _ : Unit => [(h0, .inr (6, [.ref f1, .ref f2, .ref f3, .ref f4, .ref f5, .ref f6, .ref f7, .ref f8, .ref f9, .ref f10, .ref f11, .ref n1, .ref n2, .ref n3, .ref n4, .int sm, .int ln, .int tt, .int cm, .int dm, .int si, .int mu, .int 0, .int lin, .int oc, .int od])), (n1, .inl (cI, 120, .inl (upd f k.toNatClampNeg b)))])) (va_A [(h0, .inr (6, [.ref f1, .ref f2, .ref f3, .ref f4, .ref f5, .ref f6, .ref f7, .ref f8, .ref f9, .ref f10, .ref f11, .ref n1, .ref n2, .ref n3, .ref n4, .int sm, .int ln, .int tt, .int cm, .int dm, .int si, .int mu, .int th, .int lin, .int oc, .int od])), (n1, .inl (cI, 120, .inl f))] sz)) 0 0 (va_A [(h0, .inr (6, [.ref f1, .ref f2, .ref f3, .ref f4, .ref f5, .ref f6, .ref f7, .ref f8, .ref f9, .ref f10, .ref f11, .ref n1, .ref n2, .ref n3, .ref n4, .int sm, .int ln, .int tt, .int cm, .int dm, .int si, .int mu, .int th, .int lin, .int oc, .int od])), (n1, .inl (cI, 120, .inl f))] sz) := by
  refine c_ofW (own := RMod) (by decide) rfl (fun p e s m below meth c hsz hx hb hr hml hown ht hlk hin hP hK hD hmb => ?_)
  subst hsz
  generalize hAe : va_A [(h0, .inr (6, [.ref f1, .ref f2, .ref f3, .ref f4, .ref f5, .ref f6, .ref f7, .ref f8, .ref f9, .ref f10, .ref f11, .ref n1, .ref n2, .ref n3, .ref n4, .int sm, .int ln, .int tt, .int cm, .int dm, .int si, .int mu, .int th, .int lin, .int oc, .int od])), (n1, .inl (cI, 120, .inl f))] s.heap.size = A at hD ⊢
  have hA : ∀ q : Nat, s.heap.size ≤ q → A q := fun q h => by rw [← hAe]; exact Or.inr h
  have hS : va_S A s.heap s.heap [] := va_S.rf
  have hl := lv_entry ([.ref h0, .int k, .int b]) (n := 4) (Nat.le_of_ble_eq_true rfl)
  rw [lg_entry_eq]
  generalize (lg_sl ([.ref h0, .int k, .int b]) ++ List.replicate (4 - (lg_sl ([.ref h0, .int k, .int b])).length) Slot.unset).toArray = ls at hl ⊢
  have hl : lv_has ls 4 [(0, .ref h0), (1, .int k), (2, .int b)] := hl
  refine lv_iload_n hx hb dMod_damage_0 rfl (lv_at hl 2 rfl) ?_
  refine lv_iconst (v := 0) hx hb dMod_damage_1 (by decide) ?_
  refine lv_sipush (v := 255) hx hb dMod_damage_2 (by decide) ?_
  refine q_i (wc := []) (wr := [(h0, .inr (6, [.ref f1, .ref f2, .ref f3, .ref f4, .ref f5, .ref f6, .ref f7, .ref f8, .ref f9, .ref f10, .ref f11, .ref n1, .ref n2, .ref n3, .ref n4, .int sm, .int ln, .int tt, .int cm, .int dm, .int si, .int mu, .int th, .int lin, .int oc, .int od])), (n1, .inl (cI, 120, .inl f))]) [] [0, 1] hK hP hD hS hA rfl rfl (by decide) (by decide) (va_runS (As := [.int b, .int 0, .int 255]) (rest := []) ⟨hx, hb, hml, hown, ht⟩ (c_Mod_in l D cF cI s.heap.size b 0 255) (va_cwS 3 ht (g_S km_Mod_141 ks_Mod_in kI_Mod kc_Mod_in) rfl rfl rfl (by decide +kernel) ⟨Nat.le_of_ble_eq_true rfl, Nat.le_of_ble_eq_true rfl⟩) (cPre_S hK hmb (hP.sub (ws' := []) [] rfl) (hD.sub (ws' := []) [] (by decide) rfl)) rfl rfl hl.1 rfl (lv_room (Nat.le_of_ble_eq_true rfl)) dMod_damage_5 ⟨Nat.le_of_ble_eq_true rfl, Nat.le_of_ble_eq_true rfl⟩) (fun r1 u2 H locs w3 hP hD hS => ?_)
  subst w3
  have hP : va_P D vwCl [(h0, .inr (6, [.ref f1, .ref f2, .ref f3, .ref f4, .ref f5, .ref f6, .ref f7, .ref f8, .ref f9, .ref f10, .ref f11, .ref n1, .ref n2, .ref n3, .ref n4, .int sm, .int ln, .int tt, .int cm, .int dm, .int si, .int mu, .int th, .int lin, .int oc, .int od])), (n1, .inl (cI, 120, .inl f))] H := hP
  have hD : va_D A [(h0, .inr (6, [.ref f1, .ref f2, .ref f3, .ref f4, .ref f5, .ref f6, .ref f7, .ref f8, .ref f9, .ref f10, .ref f11, .ref n1, .ref n2, .ref n3, .ref n4, .int sm, .int ln, .int tt, .int cm, .int dm, .int si, .int mu, .int th, .int lin, .int oc, .int od])), (n1, .inl (cI, 120, .inl f))] := hD
  refine lv_if_ne (tgt := 17) hx hb dMod_damage_8 (by decide) (fun c4 => ?_) (fun c4 => ?_)
  · refine lv_iload_n hx hb dMod_damage_17 rfl (lv_at hl 1 rfl) ?_
    refine lv_iconst (v := 0) hx hb dMod_damage_18 (by decide) ?_
    refine lv_aload_n hx hb dMod_damage_19 rfl (lv_at hl 0 rfl) ?_
    refine va_get (D := D) (ci := 6) (v := .int ln) hx hb ht inMod hown hK hP 0 rfl rfl 16 (by decide) (ht _ kf_Mod_104) (fun _ h9 => h9) rfl dMod_damage_20 ?_
    refine lv_iconst (v := 1) hx hb dMod_damage_23 (by decide) ?_
    refine k_isub (v := ln - 1) hx hb dMod_damage_24 rfl ?_
    refine q_i (wc := []) (wr := [(h0, .inr (6, [.ref f1, .ref f2, .ref f3, .ref f4, .ref f5, .ref f6, .ref f7, .ref f8, .ref f9, .ref f10, .ref f11, .ref n1, .ref n2, .ref n3, .ref n4, .int sm, .int ln, .int tt, .int cm, .int dm, .int si, .int mu, .int th, .int lin, .int oc, .int od])), (n1, .inl (cI, 120, .inl f))]) [] [0, 1] hK hP hD hS hA rfl rfl (by decide) (by decide) (va_runS (As := [.int k, .int 0, .int (ln - 1)]) (rest := []) ⟨hx, hb, hml, hown, ht⟩ (c_Mod_in l D cF cI H.size k 0 (ln - 1)) (va_cwS 3 ht (g_S km_Mod_141 ks_Mod_in kI_Mod kc_Mod_in) rfl rfl rfl (by decide +kernel) ⟨Nat.le_of_ble_eq_true rfl, Nat.le_of_ble_eq_true rfl⟩) (cPre_S hK hmb (hP.sub (ws' := []) [] rfl) (hD.sub (ws' := []) [] (by decide) rfl)) rfl rfl hl.1 rfl (lv_room (Nat.le_of_ble_eq_true rfl)) dMod_damage_25 ⟨Nat.le_of_ble_eq_true rfl, Nat.le_of_ble_eq_true rfl⟩) (fun r5 u6 H locs w7 hP hD hS => ?_)
    subst w7
    have hP : va_P D vwCl [(h0, .inr (6, [.ref f1, .ref f2, .ref f3, .ref f4, .ref f5, .ref f6, .ref f7, .ref f8, .ref f9, .ref f10, .ref f11, .ref n1, .ref n2, .ref n3, .ref n4, .int sm, .int ln, .int tt, .int cm, .int dm, .int si, .int mu, .int th, .int lin, .int oc, .int od])), (n1, .inl (cI, 120, .inl f))] H := hP
    have hD : va_D A [(h0, .inr (6, [.ref f1, .ref f2, .ref f3, .ref f4, .ref f5, .ref f6, .ref f7, .ref f8, .ref f9, .ref f10, .ref f11, .ref n1, .ref n2, .ref n3, .ref n4, .int sm, .int ln, .int tt, .int cm, .int dm, .int si, .int mu, .int th, .int lin, .int oc, .int od])), (n1, .inl (cI, 120, .inl f))] := hD
    refine lv_if_ne (tgt := 37) hx hb dMod_damage_28 (by decide) (fun c8 => ?_) (fun c8 => ?_)
    · refine lv_aload_n hx hb dMod_damage_37 rfl (lv_at hl 0 rfl) ?_
      refine lv_iconst (v := 0) hx hb dMod_damage_38 (by decide) ?_
      refine va_put (D := D) (ci := 6) (v := .int 0) (ty := .int) hx hb ht inMod tMod tMod_ok nMod hown hK hP hD hS 0 rfl rfl 22 (by decide) (ht _ kf_Mod_56) (fun _ h9 => h9) rfl (by decide +kernel) rfl rfl (Nat.le_of_ble_eq_true rfl) dMod_damage_39 (fun H locs hP hD hS => ?_)
      have hP : va_P D vwCl [(h0, .inr (6, [.ref f1, .ref f2, .ref f3, .ref f4, .ref f5, .ref f6, .ref f7, .ref f8, .ref f9, .ref f10, .ref f11, .ref n1, .ref n2, .ref n3, .ref n4, .int sm, .int ln, .int tt, .int cm, .int dm, .int si, .int mu, .int 0, .int lin, .int oc, .int od])), (n1, .inl (cI, 120, .inl f))] H := hP
      have hD : va_D A [(h0, .inr (6, [.ref f1, .ref f2, .ref f3, .ref f4, .ref f5, .ref f6, .ref f7, .ref f8, .ref f9, .ref f10, .ref f11, .ref n1, .ref n2, .ref n3, .ref n4, .int sm, .int ln, .int tt, .int cm, .int dm, .int si, .int mu, .int 0, .int lin, .int oc, .int od])), (n1, .inl (cI, 120, .inl f))] := hD
      refine lv_aload_n hx hb dMod_damage_42 rfl (lv_at hl 0 rfl) ?_
      refine va_get (D := D) (ci := 6) (v := .ref n1) hx hb ht inMod hown hK hP 0 rfl rfl 11 (by decide) (ht _ kf_Mod_43) (fun _ h9 => h9) rfl dMod_damage_43 ?_
      refine lv_iload_n hx hb dMod_damage_46 rfl (lv_at hl 1 rfl) ?_
      refine k_iald (j := k.toNatClampNeg) hx hb hK hP 1 1 rfl rfl hin9 rfl dMod_damage_47 ?_
      refine lv_istore_n (lv' := [(3, .int (f k.toNatClampNeg)), (0, .ref h0), (1, .int k), (2, .int b)]) hx hb dMod_damage_48 rfl hl (by decide) rfl (fun ls hl => ?_)
      refine lv_aload_n hx hb dMod_damage_49 rfl (lv_at hl 1 rfl) ?_
      refine va_get (D := D) (ci := 6) (v := .ref n1) hx hb ht inMod hown hK hP 0 rfl rfl 11 (by decide) (ht _ kf_Mod_43) (fun _ h9 => h9) rfl dMod_damage_50 ?_
      refine lv_iload_n hx hb dMod_damage_53 rfl (lv_at hl 2 rfl) ?_
      refine lv_iload_n hx hb dMod_damage_54 rfl (lv_at hl 3 rfl) ?_
      refine k_iast (j := k.toNatClampNeg) (f1 := upd f k.toNatClampNeg b) hx hb hK hP hD hS 1 1 rfl rfl hin9 rfl rfl dMod_damage_55 (fun H locs hP hD hS => ?_)
      have hP : va_P D vwCl [(h0, .inr (6, [.ref f1, .ref f2, .ref f3, .ref f4, .ref f5, .ref f6, .ref f7, .ref f8, .ref f9, .ref f10, .ref f11, .ref n1, .ref n2, .ref n3, .ref n4, .int sm, .int ln, .int tt, .int cm, .int dm, .int si, .int mu, .int 0, .int lin, .int oc, .int od])), (n1, .inl (cI, 120, .inl (upd f k.toNatClampNeg b)))] H := hP
      have hD : va_D A [(h0, .inr (6, [.ref f1, .ref f2, .ref f3, .ref f4, .ref f5, .ref f6, .ref f7, .ref f8, .ref f9, .ref f10, .ref f11, .ref n1, .ref n2, .ref n3, .ref n4, .int sm, .int ln, .int tt, .int cm, .int dm, .int si, .int mu, .int 0, .int lin, .int oc, .int od])), (n1, .inl (cI, 120, .inl (upd f k.toNatClampNeg b)))] := hD
      refine lv_iload_n hx hb dMod_damage_56 rfl (lv_at hl 0 rfl) ?_
      have hP := hP.sub (ws' := [(h0, .inr (6, [.ref f1, .ref f2, .ref f3, .ref f4, .ref f5, .ref f6, .ref f7, .ref f8, .ref f9, .ref f10, .ref f11, .ref n1, .ref n2, .ref n3, .ref n4, .int sm, .int ln, .int tt, .int cm, .int dm, .int si, .int mu, .int 0, .int lin, .int oc, .int od])), (n1, .inl (cI, 120, .inl (upd f k.toNatClampNeg b)))]) [0, 1] rfl
      have hD := hD.sub (ws' := [(h0, .inr (6, [.ref f1, .ref f2, .ref f3, .ref f4, .ref f5, .ref f6, .ref f7, .ref f8, .ref f9, .ref f10, .ref f11, .ref n1, .ref n2, .ref n3, .ref n4, .int sm, .int ln, .int tt, .int cm, .int dm, .int si, .int mu, .int 0, .int lin, .int oc, .int od])), (n1, .inl (cI, 120, .inl (upd f k.toNatClampNeg b)))]) [0, 1] (by decide) rfl
      exact e_i () hx hb hr hlk hK hP hD hS rfl rfl dMod_damage_57
    · exact absurd c8 hk2
  · exact absurd c4 hk1

set_option maxHeartbeats 4000000 in
set_option maxRecDepth 100000 in
theorem c_Mod_damage_A (l : Launch) (D : va_G) (cF cI : ClassId) (sz : Nat) (h0 f1 f2 f3 f4 f5 f6 f7 f8 f9 f10 f11 n1 n2 n3 n4 : Nat) (sm : Int32) (ln : Int32) (tt : Int32) (cm : Int32) (dm : Int32) (si : Int32) (mu : Int32) (th : Int32) (lin : Int32) (oc : Int32) (od : Int32) (k : Int32) (b : Int32) (hk1 : m_in b 0 255 = 0) : Met l yMod_damage (.code yMod_damage cMod_damage 4 (some .int) :: TB) ({ frames := 1, cells := 0, slots := 0, locals := 22 }) (va_Pc [.ref h0, .int k, .int b] (cPre D cF cI [(h0, .inr (6, [.ref f1, .ref f2, .ref f3, .ref f4, .ref f5, .ref f6, .ref f7, .ref f8, .ref f9, .ref f10, .ref f11, .ref n1, .ref n2, .ref n3, .ref n4, .int sm, .int ln, .int tt, .int cm, .int dm, .int si, .int mu, .int th, .int lin, .int oc, .int od]))] sz)) (va_Qi (fun (r : Int32) (_ : Unit) => r = 0) (cB D cF cI (va_A [(h0, .inr (6, [.ref f1, .ref f2, .ref f3, .ref f4, .ref f5, .ref f6, .ref f7, .ref f8, .ref f9, .ref f10, .ref f11, .ref n1, .ref n2, .ref n3, .ref n4, .int sm, .int ln, .int tt, .int cm, .int dm, .int si, .int mu, .int th, .int lin, .int oc, .int od]))] sz) (fun _ : Unit => [(h0, .inr (6, [.ref f1, .ref f2, .ref f3, .ref f4, .ref f5, .ref f6, .ref f7, .ref f8, .ref f9, .ref f10, .ref f11, .ref n1, .ref n2, .ref n3, .ref n4, .int sm, .int ln, .int tt, .int cm, .int dm, .int si, .int mu, .int 1, .int lin, .int oc, .int od]))])) (va_A [(h0, .inr (6, [.ref f1, .ref f2, .ref f3, .ref f4, .ref f5, .ref f6, .ref f7, .ref f8, .ref f9, .ref f10, .ref f11, .ref n1, .ref n2, .ref n3, .ref n4, .int sm, .int ln, .int tt, .int cm, .int dm, .int si, .int mu, .int th, .int lin, .int oc, .int od]))] sz)) 0 0 (va_A [(h0, .inr (6, [.ref f1, .ref f2, .ref f3, .ref f4, .ref f5, .ref f6, .ref f7, .ref f8, .ref f9, .ref f10, .ref f11, .ref n1, .ref n2, .ref n3, .ref n4, .int sm, .int ln, .int tt, .int cm, .int dm, .int si, .int mu, .int th, .int lin, .int oc, .int od]))] sz) := by
  refine c_ofW (own := RMod) (by decide) rfl (fun p e s m below meth c hsz hx hb hr hml hown ht hlk hin hP hK hD hmb => ?_)
  subst hsz
  generalize hAe : va_A [(h0, .inr (6, [.ref f1, .ref f2, .ref f3, .ref f4, .ref f5, .ref f6, .ref f7, .ref f8, .ref f9, .ref f10, .ref f11, .ref n1, .ref n2, .ref n3, .ref n4, .int sm, .int ln, .int tt, .int cm, .int dm, .int si, .int mu, .int th, .int lin, .int oc, .int od]))] s.heap.size = A at hD ⊢
  have hA : ∀ q : Nat, s.heap.size ≤ q → A q := fun q h => by rw [← hAe]; exact Or.inr h
  have hS : va_S A s.heap s.heap [] := va_S.rf
  have hl := lv_entry ([.ref h0, .int k, .int b]) (n := 4) (Nat.le_of_ble_eq_true rfl)
  rw [lg_entry_eq]
  generalize (lg_sl ([.ref h0, .int k, .int b]) ++ List.replicate (4 - (lg_sl ([.ref h0, .int k, .int b])).length) Slot.unset).toArray = ls at hl ⊢
  have hl : lv_has ls 4 [(0, .ref h0), (1, .int k), (2, .int b)] := hl
  refine lv_iload_n hx hb dMod_damage_0 rfl (lv_at hl 2 rfl) ?_
  refine lv_iconst (v := 0) hx hb dMod_damage_1 (by decide) ?_
  refine lv_sipush (v := 255) hx hb dMod_damage_2 (by decide) ?_
  refine q_i (wc := []) (wr := [(h0, .inr (6, [.ref f1, .ref f2, .ref f3, .ref f4, .ref f5, .ref f6, .ref f7, .ref f8, .ref f9, .ref f10, .ref f11, .ref n1, .ref n2, .ref n3, .ref n4, .int sm, .int ln, .int tt, .int cm, .int dm, .int si, .int mu, .int th, .int lin, .int oc, .int od]))]) [] [0] hK hP hD hS hA rfl rfl (by decide) (by decide) (va_runS (As := [.int b, .int 0, .int 255]) (rest := []) ⟨hx, hb, hml, hown, ht⟩ (c_Mod_in l D cF cI s.heap.size b 0 255) (va_cwS 3 ht (g_S km_Mod_141 ks_Mod_in kI_Mod kc_Mod_in) rfl rfl rfl (by decide +kernel) ⟨Nat.le_of_ble_eq_true rfl, Nat.le_of_ble_eq_true rfl⟩) (cPre_S hK hmb (hP.sub (ws' := []) [] rfl) (hD.sub (ws' := []) [] (by decide) rfl)) rfl rfl hl.1 rfl (lv_room (Nat.le_of_ble_eq_true rfl)) dMod_damage_5 ⟨Nat.le_of_ble_eq_true rfl, Nat.le_of_ble_eq_true rfl⟩) (fun r1 u2 H locs w3 hP hD hS => ?_)
  subst w3
  have hP : va_P D vwCl [(h0, .inr (6, [.ref f1, .ref f2, .ref f3, .ref f4, .ref f5, .ref f6, .ref f7, .ref f8, .ref f9, .ref f10, .ref f11, .ref n1, .ref n2, .ref n3, .ref n4, .int sm, .int ln, .int tt, .int cm, .int dm, .int si, .int mu, .int th, .int lin, .int oc, .int od]))] H := hP
  have hD : va_D A [(h0, .inr (6, [.ref f1, .ref f2, .ref f3, .ref f4, .ref f5, .ref f6, .ref f7, .ref f8, .ref f9, .ref f10, .ref f11, .ref n1, .ref n2, .ref n3, .ref n4, .int sm, .int ln, .int tt, .int cm, .int dm, .int si, .int mu, .int th, .int lin, .int oc, .int od]))] := hD
  refine lv_if_ne (tgt := 17) hx hb dMod_damage_8 (by decide) (fun c4 => ?_) (fun c4 => ?_)
  · exact absurd hk1 c4
  · refine lv_aload_n hx hb dMod_damage_11 rfl (lv_at hl 0 rfl) ?_
    refine lv_iconst (v := 1) hx hb dMod_damage_12 (by decide) ?_
    refine q_i (wc := [(h0, .inr (6, [.ref f1, .ref f2, .ref f3, .ref f4, .ref f5, .ref f6, .ref f7, .ref f8, .ref f9, .ref f10, .ref f11, .ref n1, .ref n2, .ref n3, .ref n4, .int sm, .int ln, .int tt, .int cm, .int dm, .int si, .int mu, .int th, .int lin, .int oc, .int od]))]) (wr := []) [0] [] hK hP hD hS hA rfl rfl (by decide) (by decide) (va_runV (As := [.int 1]) (rest := []) ⟨hx, hb, hml, hown, ht⟩ (c_Mod_fail l D cF cI H.size h0 f1 f2 f3 f4 f5 f6 f7 f8 f9 f10 f11 n1 n2 n3 n4 sm ln tt cm dm si mu th lin oc od 1) (cwV 1 ht (g_V km_Mod_64 ki_Mod_fail kv_Mod_fail kI_Mod kc_Mod_fail) rfl rfl rfl (by decide +kernel) ⟨Nat.le_of_ble_eq_true rfl, Nat.le_of_ble_eq_true rfl⟩) (cPre_V (ci := 6) (q0 := 0) hK hmb (hP.sub (ws' := [(h0, .inr (6, [.ref f1, .ref f2, .ref f3, .ref f4, .ref f5, .ref f6, .ref f7, .ref f8, .ref f9, .ref f10, .ref f11, .ref n1, .ref n2, .ref n3, .ref n4, .int sm, .int ln, .int tt, .int cm, .int dm, .int si, .int mu, .int th, .int lin, .int oc, .int od]))]) [0] rfl) (hD.sub (ws' := [(h0, .inr (6, [.ref f1, .ref f2, .ref f3, .ref f4, .ref f5, .ref f6, .ref f7, .ref f8, .ref f9, .ref f10, .ref f11, .ref n1, .ref n2, .ref n3, .ref n4, .int sm, .int ln, .int tt, .int cm, .int dm, .int si, .int mu, .int th, .int lin, .int oc, .int od]))]) [0] (by decide) rfl) rfl rfl) rfl rfl hl.1 rfl (lv_room (Nat.le_of_ble_eq_true rfl)) dMod_damage_13 ⟨Nat.le_of_ble_eq_true rfl, Nat.le_of_ble_eq_true rfl⟩) (fun r5 u6 H locs w7 hP hD hS => ?_)
    subst w7
    have hP : va_P D vwCl [(h0, .inr (6, [.ref f1, .ref f2, .ref f3, .ref f4, .ref f5, .ref f6, .ref f7, .ref f8, .ref f9, .ref f10, .ref f11, .ref n1, .ref n2, .ref n3, .ref n4, .int sm, .int ln, .int tt, .int cm, .int dm, .int si, .int mu, .int 1, .int lin, .int oc, .int od]))] H := hP
    have hD : va_D A [(h0, .inr (6, [.ref f1, .ref f2, .ref f3, .ref f4, .ref f5, .ref f6, .ref f7, .ref f8, .ref f9, .ref f10, .ref f11, .ref n1, .ref n2, .ref n3, .ref n4, .int sm, .int ln, .int tt, .int cm, .int dm, .int si, .int mu, .int 1, .int lin, .int oc, .int od]))] := hD
    have hP := hP.sub (ws' := [(h0, .inr (6, [.ref f1, .ref f2, .ref f3, .ref f4, .ref f5, .ref f6, .ref f7, .ref f8, .ref f9, .ref f10, .ref f11, .ref n1, .ref n2, .ref n3, .ref n4, .int sm, .int ln, .int tt, .int cm, .int dm, .int si, .int mu, .int 1, .int lin, .int oc, .int od]))]) [0] rfl
    have hD := hD.sub (ws' := [(h0, .inr (6, [.ref f1, .ref f2, .ref f3, .ref f4, .ref f5, .ref f6, .ref f7, .ref f8, .ref f9, .ref f10, .ref f11, .ref n1, .ref n2, .ref n3, .ref n4, .int sm, .int ln, .int tt, .int cm, .int dm, .int si, .int mu, .int 1, .int lin, .int oc, .int od]))]) [0] (by decide) rfl
    exact e_i () hx hb hr hlk hK hP hD hS rfl rfl dMod_damage_16

set_option maxHeartbeats 4000000 in
set_option maxRecDepth 100000 in
theorem c_Mod_damage_B (l : Launch) (D : va_G) (cF cI : ClassId) (sz : Nat) (h0 f1 f2 f3 f4 f5 f6 f7 f8 f9 f10 f11 n1 n2 n3 n4 : Nat) (sm : Int32) (ln : Int32) (tt : Int32) (cm : Int32) (dm : Int32) (si : Int32) (mu : Int32) (th : Int32) (lin : Int32) (oc : Int32) (od : Int32) (k : Int32) (b : Int32) (hk1 : ¬ m_in b 0 255 = 0) (hk2 : m_in k 0 (ln - 1) = 0) : Met l yMod_damage (.code yMod_damage cMod_damage 4 (some .int) :: TB) ({ frames := 1, cells := 0, slots := 0, locals := 22 }) (va_Pc [.ref h0, .int k, .int b] (cPre D cF cI [(h0, .inr (6, [.ref f1, .ref f2, .ref f3, .ref f4, .ref f5, .ref f6, .ref f7, .ref f8, .ref f9, .ref f10, .ref f11, .ref n1, .ref n2, .ref n3, .ref n4, .int sm, .int ln, .int tt, .int cm, .int dm, .int si, .int mu, .int th, .int lin, .int oc, .int od]))] sz)) (va_Qi (fun (r : Int32) (_ : Unit) => r = 0) (cB D cF cI (va_A [(h0, .inr (6, [.ref f1, .ref f2, .ref f3, .ref f4, .ref f5, .ref f6, .ref f7, .ref f8, .ref f9, .ref f10, .ref f11, .ref n1, .ref n2, .ref n3, .ref n4, .int sm, .int ln, .int tt, .int cm, .int dm, .int si, .int mu, .int th, .int lin, .int oc, .int od]))] sz) (fun _ : Unit => [(h0, .inr (6, [.ref f1, .ref f2, .ref f3, .ref f4, .ref f5, .ref f6, .ref f7, .ref f8, .ref f9, .ref f10, .ref f11, .ref n1, .ref n2, .ref n3, .ref n4, .int sm, .int ln, .int tt, .int cm, .int dm, .int si, .int mu, .int 2, .int lin, .int oc, .int od]))])) (va_A [(h0, .inr (6, [.ref f1, .ref f2, .ref f3, .ref f4, .ref f5, .ref f6, .ref f7, .ref f8, .ref f9, .ref f10, .ref f11, .ref n1, .ref n2, .ref n3, .ref n4, .int sm, .int ln, .int tt, .int cm, .int dm, .int si, .int mu, .int th, .int lin, .int oc, .int od]))] sz)) 0 0 (va_A [(h0, .inr (6, [.ref f1, .ref f2, .ref f3, .ref f4, .ref f5, .ref f6, .ref f7, .ref f8, .ref f9, .ref f10, .ref f11, .ref n1, .ref n2, .ref n3, .ref n4, .int sm, .int ln, .int tt, .int cm, .int dm, .int si, .int mu, .int th, .int lin, .int oc, .int od]))] sz) := by
  refine c_ofW (own := RMod) (by decide) rfl (fun p e s m below meth c hsz hx hb hr hml hown ht hlk hin hP hK hD hmb => ?_)
  subst hsz
  generalize hAe : va_A [(h0, .inr (6, [.ref f1, .ref f2, .ref f3, .ref f4, .ref f5, .ref f6, .ref f7, .ref f8, .ref f9, .ref f10, .ref f11, .ref n1, .ref n2, .ref n3, .ref n4, .int sm, .int ln, .int tt, .int cm, .int dm, .int si, .int mu, .int th, .int lin, .int oc, .int od]))] s.heap.size = A at hD ⊢
  have hA : ∀ q : Nat, s.heap.size ≤ q → A q := fun q h => by rw [← hAe]; exact Or.inr h
  have hS : va_S A s.heap s.heap [] := va_S.rf
  have hl := lv_entry ([.ref h0, .int k, .int b]) (n := 4) (Nat.le_of_ble_eq_true rfl)
  rw [lg_entry_eq]
  generalize (lg_sl ([.ref h0, .int k, .int b]) ++ List.replicate (4 - (lg_sl ([.ref h0, .int k, .int b])).length) Slot.unset).toArray = ls at hl ⊢
  have hl : lv_has ls 4 [(0, .ref h0), (1, .int k), (2, .int b)] := hl
  refine lv_iload_n hx hb dMod_damage_0 rfl (lv_at hl 2 rfl) ?_
  refine lv_iconst (v := 0) hx hb dMod_damage_1 (by decide) ?_
  refine lv_sipush (v := 255) hx hb dMod_damage_2 (by decide) ?_
  refine q_i (wc := []) (wr := [(h0, .inr (6, [.ref f1, .ref f2, .ref f3, .ref f4, .ref f5, .ref f6, .ref f7, .ref f8, .ref f9, .ref f10, .ref f11, .ref n1, .ref n2, .ref n3, .ref n4, .int sm, .int ln, .int tt, .int cm, .int dm, .int si, .int mu, .int th, .int lin, .int oc, .int od]))]) [] [0] hK hP hD hS hA rfl rfl (by decide) (by decide) (va_runS (As := [.int b, .int 0, .int 255]) (rest := []) ⟨hx, hb, hml, hown, ht⟩ (c_Mod_in l D cF cI s.heap.size b 0 255) (va_cwS 3 ht (g_S km_Mod_141 ks_Mod_in kI_Mod kc_Mod_in) rfl rfl rfl (by decide +kernel) ⟨Nat.le_of_ble_eq_true rfl, Nat.le_of_ble_eq_true rfl⟩) (cPre_S hK hmb (hP.sub (ws' := []) [] rfl) (hD.sub (ws' := []) [] (by decide) rfl)) rfl rfl hl.1 rfl (lv_room (Nat.le_of_ble_eq_true rfl)) dMod_damage_5 ⟨Nat.le_of_ble_eq_true rfl, Nat.le_of_ble_eq_true rfl⟩) (fun r1 u2 H locs w3 hP hD hS => ?_)
  subst w3
  have hP : va_P D vwCl [(h0, .inr (6, [.ref f1, .ref f2, .ref f3, .ref f4, .ref f5, .ref f6, .ref f7, .ref f8, .ref f9, .ref f10, .ref f11, .ref n1, .ref n2, .ref n3, .ref n4, .int sm, .int ln, .int tt, .int cm, .int dm, .int si, .int mu, .int th, .int lin, .int oc, .int od]))] H := hP
  have hD : va_D A [(h0, .inr (6, [.ref f1, .ref f2, .ref f3, .ref f4, .ref f5, .ref f6, .ref f7, .ref f8, .ref f9, .ref f10, .ref f11, .ref n1, .ref n2, .ref n3, .ref n4, .int sm, .int ln, .int tt, .int cm, .int dm, .int si, .int mu, .int th, .int lin, .int oc, .int od]))] := hD
  refine lv_if_ne (tgt := 17) hx hb dMod_damage_8 (by decide) (fun c4 => ?_) (fun c4 => ?_)
  · refine lv_iload_n hx hb dMod_damage_17 rfl (lv_at hl 1 rfl) ?_
    refine lv_iconst (v := 0) hx hb dMod_damage_18 (by decide) ?_
    refine lv_aload_n hx hb dMod_damage_19 rfl (lv_at hl 0 rfl) ?_
    refine va_get (D := D) (ci := 6) (v := .int ln) hx hb ht inMod hown hK hP 0 rfl rfl 16 (by decide) (ht _ kf_Mod_104) (fun _ h9 => h9) rfl dMod_damage_20 ?_
    refine lv_iconst (v := 1) hx hb dMod_damage_23 (by decide) ?_
    refine k_isub (v := ln - 1) hx hb dMod_damage_24 rfl ?_
    refine q_i (wc := []) (wr := [(h0, .inr (6, [.ref f1, .ref f2, .ref f3, .ref f4, .ref f5, .ref f6, .ref f7, .ref f8, .ref f9, .ref f10, .ref f11, .ref n1, .ref n2, .ref n3, .ref n4, .int sm, .int ln, .int tt, .int cm, .int dm, .int si, .int mu, .int th, .int lin, .int oc, .int od]))]) [] [0] hK hP hD hS hA rfl rfl (by decide) (by decide) (va_runS (As := [.int k, .int 0, .int (ln - 1)]) (rest := []) ⟨hx, hb, hml, hown, ht⟩ (c_Mod_in l D cF cI H.size k 0 (ln - 1)) (va_cwS 3 ht (g_S km_Mod_141 ks_Mod_in kI_Mod kc_Mod_in) rfl rfl rfl (by decide +kernel) ⟨Nat.le_of_ble_eq_true rfl, Nat.le_of_ble_eq_true rfl⟩) (cPre_S hK hmb (hP.sub (ws' := []) [] rfl) (hD.sub (ws' := []) [] (by decide) rfl)) rfl rfl hl.1 rfl (lv_room (Nat.le_of_ble_eq_true rfl)) dMod_damage_25 ⟨Nat.le_of_ble_eq_true rfl, Nat.le_of_ble_eq_true rfl⟩) (fun r5 u6 H locs w7 hP hD hS => ?_)
    subst w7
    have hP : va_P D vwCl [(h0, .inr (6, [.ref f1, .ref f2, .ref f3, .ref f4, .ref f5, .ref f6, .ref f7, .ref f8, .ref f9, .ref f10, .ref f11, .ref n1, .ref n2, .ref n3, .ref n4, .int sm, .int ln, .int tt, .int cm, .int dm, .int si, .int mu, .int th, .int lin, .int oc, .int od]))] H := hP
    have hD : va_D A [(h0, .inr (6, [.ref f1, .ref f2, .ref f3, .ref f4, .ref f5, .ref f6, .ref f7, .ref f8, .ref f9, .ref f10, .ref f11, .ref n1, .ref n2, .ref n3, .ref n4, .int sm, .int ln, .int tt, .int cm, .int dm, .int si, .int mu, .int th, .int lin, .int oc, .int od]))] := hD
    refine lv_if_ne (tgt := 37) hx hb dMod_damage_28 (by decide) (fun c8 => ?_) (fun c8 => ?_)
    · exact absurd hk2 c8
    · refine lv_aload_n hx hb dMod_damage_31 rfl (lv_at hl 0 rfl) ?_
      refine lv_iconst (v := 2) hx hb dMod_damage_32 (by decide) ?_
      refine q_i (wc := [(h0, .inr (6, [.ref f1, .ref f2, .ref f3, .ref f4, .ref f5, .ref f6, .ref f7, .ref f8, .ref f9, .ref f10, .ref f11, .ref n1, .ref n2, .ref n3, .ref n4, .int sm, .int ln, .int tt, .int cm, .int dm, .int si, .int mu, .int th, .int lin, .int oc, .int od]))]) (wr := []) [0] [] hK hP hD hS hA rfl rfl (by decide) (by decide) (va_runV (As := [.int 2]) (rest := []) ⟨hx, hb, hml, hown, ht⟩ (c_Mod_fail l D cF cI H.size h0 f1 f2 f3 f4 f5 f6 f7 f8 f9 f10 f11 n1 n2 n3 n4 sm ln tt cm dm si mu th lin oc od 2) (cwV 1 ht (g_V km_Mod_64 ki_Mod_fail kv_Mod_fail kI_Mod kc_Mod_fail) rfl rfl rfl (by decide +kernel) ⟨Nat.le_of_ble_eq_true rfl, Nat.le_of_ble_eq_true rfl⟩) (cPre_V (ci := 6) (q0 := 0) hK hmb (hP.sub (ws' := [(h0, .inr (6, [.ref f1, .ref f2, .ref f3, .ref f4, .ref f5, .ref f6, .ref f7, .ref f8, .ref f9, .ref f10, .ref f11, .ref n1, .ref n2, .ref n3, .ref n4, .int sm, .int ln, .int tt, .int cm, .int dm, .int si, .int mu, .int th, .int lin, .int oc, .int od]))]) [0] rfl) (hD.sub (ws' := [(h0, .inr (6, [.ref f1, .ref f2, .ref f3, .ref f4, .ref f5, .ref f6, .ref f7, .ref f8, .ref f9, .ref f10, .ref f11, .ref n1, .ref n2, .ref n3, .ref n4, .int sm, .int ln, .int tt, .int cm, .int dm, .int si, .int mu, .int th, .int lin, .int oc, .int od]))]) [0] (by decide) rfl) rfl rfl) rfl rfl hl.1 rfl (lv_room (Nat.le_of_ble_eq_true rfl)) dMod_damage_33 ⟨Nat.le_of_ble_eq_true rfl, Nat.le_of_ble_eq_true rfl⟩) (fun r9 u10 H locs w11 hP hD hS => ?_)
      subst w11
      have hP : va_P D vwCl [(h0, .inr (6, [.ref f1, .ref f2, .ref f3, .ref f4, .ref f5, .ref f6, .ref f7, .ref f8, .ref f9, .ref f10, .ref f11, .ref n1, .ref n2, .ref n3, .ref n4, .int sm, .int ln, .int tt, .int cm, .int dm, .int si, .int mu, .int 2, .int lin, .int oc, .int od]))] H := hP
      have hD : va_D A [(h0, .inr (6, [.ref f1, .ref f2, .ref f3, .ref f4, .ref f5, .ref f6, .ref f7, .ref f8, .ref f9, .ref f10, .ref f11, .ref n1, .ref n2, .ref n3, .ref n4, .int sm, .int ln, .int tt, .int cm, .int dm, .int si, .int mu, .int 2, .int lin, .int oc, .int od]))] := hD
      have hP := hP.sub (ws' := [(h0, .inr (6, [.ref f1, .ref f2, .ref f3, .ref f4, .ref f5, .ref f6, .ref f7, .ref f8, .ref f9, .ref f10, .ref f11, .ref n1, .ref n2, .ref n3, .ref n4, .int sm, .int ln, .int tt, .int cm, .int dm, .int si, .int mu, .int 2, .int lin, .int oc, .int od]))]) [0] rfl
      have hD := hD.sub (ws' := [(h0, .inr (6, [.ref f1, .ref f2, .ref f3, .ref f4, .ref f5, .ref f6, .ref f7, .ref f8, .ref f9, .ref f10, .ref f11, .ref n1, .ref n2, .ref n3, .ref n4, .int sm, .int ln, .int tt, .int cm, .int dm, .int si, .int mu, .int 2, .int lin, .int oc, .int od]))]) [0] (by decide) rfl
      exact e_i () hx hb hr hlk hK hP hD hS rfl rfl dMod_damage_36
  · exact absurd c4 hk1

set_option maxHeartbeats 4000000 in
set_option maxRecDepth 100000 in
theorem c_Mod_cut_R (l : Launch) (D : va_G) (cF cI : ClassId) (sz : Nat) (h0 f1 f2 f3 f4 f5 f6 f7 f8 f9 f10 f11 n1 n2 n3 n4 : Nat) (sm : Int32) (ln : Int32) (tt : Int32) (cm : Int32) (dm : Int32) (si : Int32) (mu : Int32) (th : Int32) (lin : Int32) (oc : Int32) (od : Int32) (k : Int32) (hk : ¬ m_in k 0 (ln - tt) = 0) : Met l yMod_cut (.code yMod_cut cMod_cut 2 (some .int) :: TB) ({ frames := 1, cells := 0, slots := 0, locals := 22 }) (va_Pc [.ref h0, .int k] (cPre D cF cI [(h0, .inr (6, [.ref f1, .ref f2, .ref f3, .ref f4, .ref f5, .ref f6, .ref f7, .ref f8, .ref f9, .ref f10, .ref f11, .ref n1, .ref n2, .ref n3, .ref n4, .int sm, .int ln, .int tt, .int cm, .int dm, .int si, .int mu, .int th, .int lin, .int oc, .int od]))] sz)) (va_Qi (fun (r : Int32) (_ : Unit) => r = ln - k) (cB D cF cI (va_A [(h0, .inr (6, [.ref f1, .ref f2, .ref f3, .ref f4, .ref f5, .ref f6, .ref f7, .ref f8, .ref f9, .ref f10, .ref f11, .ref n1, .ref n2, .ref n3, .ref n4, .int sm, .int ln, .int tt, .int cm, .int dm, .int si, .int mu, .int th, .int lin, .int oc, .int od]))] sz) (fun _ : Unit => [(h0, .inr (6, [.ref f1, .ref f2, .ref f3, .ref f4, .ref f5, .ref f6, .ref f7, .ref f8, .ref f9, .ref f10, .ref f11, .ref n1, .ref n2, .ref n3, .ref n4, .int sm, .int (ln - k), .int tt, .int cm, .int dm, .int si, .int mu, .int 0, .int lin, .int oc, .int od]))])) (va_A [(h0, .inr (6, [.ref f1, .ref f2, .ref f3, .ref f4, .ref f5, .ref f6, .ref f7, .ref f8, .ref f9, .ref f10, .ref f11, .ref n1, .ref n2, .ref n3, .ref n4, .int sm, .int ln, .int tt, .int cm, .int dm, .int si, .int mu, .int th, .int lin, .int oc, .int od]))] sz)) 0 0 (va_A [(h0, .inr (6, [.ref f1, .ref f2, .ref f3, .ref f4, .ref f5, .ref f6, .ref f7, .ref f8, .ref f9, .ref f10, .ref f11, .ref n1, .ref n2, .ref n3, .ref n4, .int sm, .int ln, .int tt, .int cm, .int dm, .int si, .int mu, .int th, .int lin, .int oc, .int od]))] sz) := by
  refine c_ofW (own := RMod) (by decide) rfl (fun p e s m below meth c hsz hx hb hr hml hown ht hlk hin hP hK hD hmb => ?_)
  subst hsz
  generalize hAe : va_A [(h0, .inr (6, [.ref f1, .ref f2, .ref f3, .ref f4, .ref f5, .ref f6, .ref f7, .ref f8, .ref f9, .ref f10, .ref f11, .ref n1, .ref n2, .ref n3, .ref n4, .int sm, .int ln, .int tt, .int cm, .int dm, .int si, .int mu, .int th, .int lin, .int oc, .int od]))] s.heap.size = A at hD ⊢
  have hA : ∀ q : Nat, s.heap.size ≤ q → A q := fun q h => by rw [← hAe]; exact Or.inr h
  have hS : va_S A s.heap s.heap [] := va_S.rf
  have hl := lv_entry ([.ref h0, .int k]) (n := 2) (Nat.le_of_ble_eq_true rfl)
  rw [lg_entry_eq]
  generalize (lg_sl ([.ref h0, .int k]) ++ List.replicate (2 - (lg_sl ([.ref h0, .int k])).length) Slot.unset).toArray = ls at hl ⊢
  have hl : lv_has ls 2 [(0, .ref h0), (1, .int k)] := hl
  refine lv_iload_n hx hb dMod_cut_0 rfl (lv_at hl 1 rfl) ?_
  refine lv_iconst (v := 0) hx hb dMod_cut_1 (by decide) ?_
  refine lv_aload_n hx hb dMod_cut_2 rfl (lv_at hl 0 rfl) ?_
  refine va_get (D := D) (ci := 6) (v := .int ln) hx hb ht inMod hown hK hP 0 rfl rfl 16 (by decide) (ht _ kf_Mod_104) (fun _ h9 => h9) rfl dMod_cut_3 ?_
  refine lv_aload_n hx hb dMod_cut_6 rfl (lv_at hl 0 rfl) ?_
  refine va_get (D := D) (ci := 6) (v := .int tt) hx hb ht inMod hown hK hP 0 rfl rfl 17 (by decide) (ht _ kf_Mod_134) (fun _ h9 => h9) rfl dMod_cut_7 ?_
  refine k_isub (v := ln - tt) hx hb dMod_cut_10 rfl ?_
  refine q_i (wc := []) (wr := [(h0, .inr (6, [.ref f1, .ref f2, .ref f3, .ref f4, .ref f5, .ref f6, .ref f7, .ref f8, .ref f9, .ref f10, .ref f11, .ref n1, .ref n2, .ref n3, .ref n4, .int sm, .int ln, .int tt, .int cm, .int dm, .int si, .int mu, .int th, .int lin, .int oc, .int od]))]) [] [0] hK hP hD hS hA rfl rfl (by decide) (by decide) (va_runS (As := [.int k, .int 0, .int (ln - tt)]) (rest := []) ⟨hx, hb, hml, hown, ht⟩ (c_Mod_in l D cF cI s.heap.size k 0 (ln - tt)) (va_cwS 3 ht (g_S km_Mod_141 ks_Mod_in kI_Mod kc_Mod_in) rfl rfl rfl (by decide +kernel) ⟨Nat.le_of_ble_eq_true rfl, Nat.le_of_ble_eq_true rfl⟩) (cPre_S hK hmb (hP.sub (ws' := []) [] rfl) (hD.sub (ws' := []) [] (by decide) rfl)) rfl rfl hl.1 rfl (lv_room (Nat.le_of_ble_eq_true rfl)) dMod_cut_11 ⟨Nat.le_of_ble_eq_true rfl, Nat.le_of_ble_eq_true rfl⟩) (fun r1 u2 H locs w3 hP hD hS => ?_)
  subst w3
  have hP : va_P D vwCl [(h0, .inr (6, [.ref f1, .ref f2, .ref f3, .ref f4, .ref f5, .ref f6, .ref f7, .ref f8, .ref f9, .ref f10, .ref f11, .ref n1, .ref n2, .ref n3, .ref n4, .int sm, .int ln, .int tt, .int cm, .int dm, .int si, .int mu, .int th, .int lin, .int oc, .int od]))] H := hP
  have hD : va_D A [(h0, .inr (6, [.ref f1, .ref f2, .ref f3, .ref f4, .ref f5, .ref f6, .ref f7, .ref f8, .ref f9, .ref f10, .ref f11, .ref n1, .ref n2, .ref n3, .ref n4, .int sm, .int ln, .int tt, .int cm, .int dm, .int si, .int mu, .int th, .int lin, .int oc, .int od]))] := hD
  refine lv_if_ne (tgt := 23) hx hb dMod_cut_14 (by decide) (fun c4 => ?_) (fun c4 => ?_)
  · refine lv_aload_n hx hb dMod_cut_23 rfl (lv_at hl 0 rfl) ?_
    refine lv_iconst (v := 0) hx hb dMod_cut_24 (by decide) ?_
    refine va_put (D := D) (ci := 6) (v := .int 0) (ty := .int) hx hb ht inMod tMod tMod_ok nMod hown hK hP hD hS 0 rfl rfl 22 (by decide) (ht _ kf_Mod_56) (fun _ h9 => h9) rfl (by decide +kernel) rfl rfl (Nat.le_of_ble_eq_true rfl) dMod_cut_25 (fun H locs hP hD hS => ?_)
    have hP : va_P D vwCl [(h0, .inr (6, [.ref f1, .ref f2, .ref f3, .ref f4, .ref f5, .ref f6, .ref f7, .ref f8, .ref f9, .ref f10, .ref f11, .ref n1, .ref n2, .ref n3, .ref n4, .int sm, .int ln, .int tt, .int cm, .int dm, .int si, .int mu, .int 0, .int lin, .int oc, .int od]))] H := hP
    have hD : va_D A [(h0, .inr (6, [.ref f1, .ref f2, .ref f3, .ref f4, .ref f5, .ref f6, .ref f7, .ref f8, .ref f9, .ref f10, .ref f11, .ref n1, .ref n2, .ref n3, .ref n4, .int sm, .int ln, .int tt, .int cm, .int dm, .int si, .int mu, .int 0, .int lin, .int oc, .int od]))] := hD
    refine lv_aload_n hx hb dMod_cut_28 rfl (lv_at hl 0 rfl) ?_
    refine lv_dup hx hb dMod_cut_29 rfl ?_
    refine va_get (D := D) (ci := 6) (v := .int ln) hx hb ht inMod hown hK hP 0 rfl rfl 16 (by decide) (ht _ kf_Mod_104) (fun _ h9 => h9) rfl dMod_cut_30 ?_
    refine lv_iload_n hx hb dMod_cut_33 rfl (lv_at hl 1 rfl) ?_
    refine k_isub (v := ln - k) hx hb dMod_cut_34 rfl ?_
    refine va_put (D := D) (ci := 6) (v := .int (ln - k)) (ty := .int) hx hb ht inMod tMod tMod_ok nMod hown hK hP hD hS 0 rfl rfl 16 (by decide) (ht _ kf_Mod_104) (fun _ h9 => h9) rfl (by decide +kernel) rfl rfl (Nat.le_of_ble_eq_true rfl) dMod_cut_35 (fun H locs hP hD hS => ?_)
    have hP : va_P D vwCl [(h0, .inr (6, [.ref f1, .ref f2, .ref f3, .ref f4, .ref f5, .ref f6, .ref f7, .ref f8, .ref f9, .ref f10, .ref f11, .ref n1, .ref n2, .ref n3, .ref n4, .int sm, .int (ln - k), .int tt, .int cm, .int dm, .int si, .int mu, .int 0, .int lin, .int oc, .int od]))] H := hP
    have hD : va_D A [(h0, .inr (6, [.ref f1, .ref f2, .ref f3, .ref f4, .ref f5, .ref f6, .ref f7, .ref f8, .ref f9, .ref f10, .ref f11, .ref n1, .ref n2, .ref n3, .ref n4, .int sm, .int (ln - k), .int tt, .int cm, .int dm, .int si, .int mu, .int 0, .int lin, .int oc, .int od]))] := hD
    refine lv_aload_n hx hb dMod_cut_38 rfl (lv_at hl 0 rfl) ?_
    refine va_get (D := D) (ci := 6) (v := .int (ln - k)) hx hb ht inMod hown hK hP 0 rfl rfl 16 (by decide) (ht _ kf_Mod_104) (fun _ h9 => h9) rfl dMod_cut_39 ?_
    have hP := hP.sub (ws' := [(h0, .inr (6, [.ref f1, .ref f2, .ref f3, .ref f4, .ref f5, .ref f6, .ref f7, .ref f8, .ref f9, .ref f10, .ref f11, .ref n1, .ref n2, .ref n3, .ref n4, .int sm, .int (ln - k), .int tt, .int cm, .int dm, .int si, .int mu, .int 0, .int lin, .int oc, .int od]))]) [0] rfl
    have hD := hD.sub (ws' := [(h0, .inr (6, [.ref f1, .ref f2, .ref f3, .ref f4, .ref f5, .ref f6, .ref f7, .ref f8, .ref f9, .ref f10, .ref f11, .ref n1, .ref n2, .ref n3, .ref n4, .int sm, .int (ln - k), .int tt, .int cm, .int dm, .int si, .int mu, .int 0, .int lin, .int oc, .int od]))]) [0] (by decide) rfl
    exact e_i () hx hb hr hlk hK hP hD hS rfl rfl dMod_cut_42
  · exact absurd c4 hk

set_option maxHeartbeats 4000000 in
set_option maxRecDepth 100000 in
theorem c_Mod_cut_X (l : Launch) (D : va_G) (cF cI : ClassId) (sz : Nat) (h0 f1 f2 f3 f4 f5 f6 f7 f8 f9 f10 f11 n1 n2 n3 n4 : Nat) (sm : Int32) (ln : Int32) (tt : Int32) (cm : Int32) (dm : Int32) (si : Int32) (mu : Int32) (th : Int32) (lin : Int32) (oc : Int32) (od : Int32) (k : Int32) (hk : m_in k 0 (ln - tt) = 0) : Met l yMod_cut (.code yMod_cut cMod_cut 2 (some .int) :: TB) ({ frames := 1, cells := 0, slots := 0, locals := 22 }) (va_Pc [.ref h0, .int k] (cPre D cF cI [(h0, .inr (6, [.ref f1, .ref f2, .ref f3, .ref f4, .ref f5, .ref f6, .ref f7, .ref f8, .ref f9, .ref f10, .ref f11, .ref n1, .ref n2, .ref n3, .ref n4, .int sm, .int ln, .int tt, .int cm, .int dm, .int si, .int mu, .int th, .int lin, .int oc, .int od]))] sz)) (va_Qi (fun (r : Int32) (_ : Unit) => r = 0) (cB D cF cI (va_A [(h0, .inr (6, [.ref f1, .ref f2, .ref f3, .ref f4, .ref f5, .ref f6, .ref f7, .ref f8, .ref f9, .ref f10, .ref f11, .ref n1, .ref n2, .ref n3, .ref n4, .int sm, .int ln, .int tt, .int cm, .int dm, .int si, .int mu, .int th, .int lin, .int oc, .int od]))] sz) (fun _ : Unit => [(h0, .inr (6, [.ref f1, .ref f2, .ref f3, .ref f4, .ref f5, .ref f6, .ref f7, .ref f8, .ref f9, .ref f10, .ref f11, .ref n1, .ref n2, .ref n3, .ref n4, .int sm, .int ln, .int tt, .int cm, .int dm, .int si, .int mu, .int 1, .int lin, .int oc, .int od]))])) (va_A [(h0, .inr (6, [.ref f1, .ref f2, .ref f3, .ref f4, .ref f5, .ref f6, .ref f7, .ref f8, .ref f9, .ref f10, .ref f11, .ref n1, .ref n2, .ref n3, .ref n4, .int sm, .int ln, .int tt, .int cm, .int dm, .int si, .int mu, .int th, .int lin, .int oc, .int od]))] sz)) 0 0 (va_A [(h0, .inr (6, [.ref f1, .ref f2, .ref f3, .ref f4, .ref f5, .ref f6, .ref f7, .ref f8, .ref f9, .ref f10, .ref f11, .ref n1, .ref n2, .ref n3, .ref n4, .int sm, .int ln, .int tt, .int cm, .int dm, .int si, .int mu, .int th, .int lin, .int oc, .int od]))] sz) := by
  refine c_ofW (own := RMod) (by decide) rfl (fun p e s m below meth c hsz hx hb hr hml hown ht hlk hin hP hK hD hmb => ?_)
  subst hsz
  generalize hAe : va_A [(h0, .inr (6, [.ref f1, .ref f2, .ref f3, .ref f4, .ref f5, .ref f6, .ref f7, .ref f8, .ref f9, .ref f10, .ref f11, .ref n1, .ref n2, .ref n3, .ref n4, .int sm, .int ln, .int tt, .int cm, .int dm, .int si, .int mu, .int th, .int lin, .int oc, .int od]))] s.heap.size = A at hD ⊢
  have hA : ∀ q : Nat, s.heap.size ≤ q → A q := fun q h => by rw [← hAe]; exact Or.inr h
  have hS : va_S A s.heap s.heap [] := va_S.rf
  have hl := lv_entry ([.ref h0, .int k]) (n := 2) (Nat.le_of_ble_eq_true rfl)
  rw [lg_entry_eq]
  generalize (lg_sl ([.ref h0, .int k]) ++ List.replicate (2 - (lg_sl ([.ref h0, .int k])).length) Slot.unset).toArray = ls at hl ⊢
  have hl : lv_has ls 2 [(0, .ref h0), (1, .int k)] := hl
  refine lv_iload_n hx hb dMod_cut_0 rfl (lv_at hl 1 rfl) ?_
  refine lv_iconst (v := 0) hx hb dMod_cut_1 (by decide) ?_
  refine lv_aload_n hx hb dMod_cut_2 rfl (lv_at hl 0 rfl) ?_
  refine va_get (D := D) (ci := 6) (v := .int ln) hx hb ht inMod hown hK hP 0 rfl rfl 16 (by decide) (ht _ kf_Mod_104) (fun _ h9 => h9) rfl dMod_cut_3 ?_
  refine lv_aload_n hx hb dMod_cut_6 rfl (lv_at hl 0 rfl) ?_
  refine va_get (D := D) (ci := 6) (v := .int tt) hx hb ht inMod hown hK hP 0 rfl rfl 17 (by decide) (ht _ kf_Mod_134) (fun _ h9 => h9) rfl dMod_cut_7 ?_
  refine k_isub (v := ln - tt) hx hb dMod_cut_10 rfl ?_
  refine q_i (wc := []) (wr := [(h0, .inr (6, [.ref f1, .ref f2, .ref f3, .ref f4, .ref f5, .ref f6, .ref f7, .ref f8, .ref f9, .ref f10, .ref f11, .ref n1, .ref n2, .ref n3, .ref n4, .int sm, .int ln, .int tt, .int cm, .int dm, .int si, .int mu, .int th, .int lin, .int oc, .int od]))]) [] [0] hK hP hD hS hA rfl rfl (by decide) (by decide) (va_runS (As := [.int k, .int 0, .int (ln - tt)]) (rest := []) ⟨hx, hb, hml, hown, ht⟩ (c_Mod_in l D cF cI s.heap.size k 0 (ln - tt)) (va_cwS 3 ht (g_S km_Mod_141 ks_Mod_in kI_Mod kc_Mod_in) rfl rfl rfl (by decide +kernel) ⟨Nat.le_of_ble_eq_true rfl, Nat.le_of_ble_eq_true rfl⟩) (cPre_S hK hmb (hP.sub (ws' := []) [] rfl) (hD.sub (ws' := []) [] (by decide) rfl)) rfl rfl hl.1 rfl (lv_room (Nat.le_of_ble_eq_true rfl)) dMod_cut_11 ⟨Nat.le_of_ble_eq_true rfl, Nat.le_of_ble_eq_true rfl⟩) (fun r1 u2 H locs w3 hP hD hS => ?_)
  subst w3
  have hP : va_P D vwCl [(h0, .inr (6, [.ref f1, .ref f2, .ref f3, .ref f4, .ref f5, .ref f6, .ref f7, .ref f8, .ref f9, .ref f10, .ref f11, .ref n1, .ref n2, .ref n3, .ref n4, .int sm, .int ln, .int tt, .int cm, .int dm, .int si, .int mu, .int th, .int lin, .int oc, .int od]))] H := hP
  have hD : va_D A [(h0, .inr (6, [.ref f1, .ref f2, .ref f3, .ref f4, .ref f5, .ref f6, .ref f7, .ref f8, .ref f9, .ref f10, .ref f11, .ref n1, .ref n2, .ref n3, .ref n4, .int sm, .int ln, .int tt, .int cm, .int dm, .int si, .int mu, .int th, .int lin, .int oc, .int od]))] := hD
  refine lv_if_ne (tgt := 23) hx hb dMod_cut_14 (by decide) (fun c4 => ?_) (fun c4 => ?_)
  · exact absurd hk c4
  · refine lv_aload_n hx hb dMod_cut_17 rfl (lv_at hl 0 rfl) ?_
    refine lv_iconst (v := 1) hx hb dMod_cut_18 (by decide) ?_
    refine q_i (wc := [(h0, .inr (6, [.ref f1, .ref f2, .ref f3, .ref f4, .ref f5, .ref f6, .ref f7, .ref f8, .ref f9, .ref f10, .ref f11, .ref n1, .ref n2, .ref n3, .ref n4, .int sm, .int ln, .int tt, .int cm, .int dm, .int si, .int mu, .int th, .int lin, .int oc, .int od]))]) (wr := []) [0] [] hK hP hD hS hA rfl rfl (by decide) (by decide) (va_runV (As := [.int 1]) (rest := []) ⟨hx, hb, hml, hown, ht⟩ (c_Mod_fail l D cF cI H.size h0 f1 f2 f3 f4 f5 f6 f7 f8 f9 f10 f11 n1 n2 n3 n4 sm ln tt cm dm si mu th lin oc od 1) (cwV 1 ht (g_V km_Mod_64 ki_Mod_fail kv_Mod_fail kI_Mod kc_Mod_fail) rfl rfl rfl (by decide +kernel) ⟨Nat.le_of_ble_eq_true rfl, Nat.le_of_ble_eq_true rfl⟩) (cPre_V (ci := 6) (q0 := 0) hK hmb (hP.sub (ws' := [(h0, .inr (6, [.ref f1, .ref f2, .ref f3, .ref f4, .ref f5, .ref f6, .ref f7, .ref f8, .ref f9, .ref f10, .ref f11, .ref n1, .ref n2, .ref n3, .ref n4, .int sm, .int ln, .int tt, .int cm, .int dm, .int si, .int mu, .int th, .int lin, .int oc, .int od]))]) [0] rfl) (hD.sub (ws' := [(h0, .inr (6, [.ref f1, .ref f2, .ref f3, .ref f4, .ref f5, .ref f6, .ref f7, .ref f8, .ref f9, .ref f10, .ref f11, .ref n1, .ref n2, .ref n3, .ref n4, .int sm, .int ln, .int tt, .int cm, .int dm, .int si, .int mu, .int th, .int lin, .int oc, .int od]))]) [0] (by decide) rfl) rfl rfl) rfl rfl hl.1 rfl (lv_room (Nat.le_of_ble_eq_true rfl)) dMod_cut_19 ⟨Nat.le_of_ble_eq_true rfl, Nat.le_of_ble_eq_true rfl⟩) (fun r5 u6 H locs w7 hP hD hS => ?_)
    subst w7
    have hP : va_P D vwCl [(h0, .inr (6, [.ref f1, .ref f2, .ref f3, .ref f4, .ref f5, .ref f6, .ref f7, .ref f8, .ref f9, .ref f10, .ref f11, .ref n1, .ref n2, .ref n3, .ref n4, .int sm, .int ln, .int tt, .int cm, .int dm, .int si, .int mu, .int 1, .int lin, .int oc, .int od]))] H := hP
    have hD : va_D A [(h0, .inr (6, [.ref f1, .ref f2, .ref f3, .ref f4, .ref f5, .ref f6, .ref f7, .ref f8, .ref f9, .ref f10, .ref f11, .ref n1, .ref n2, .ref n3, .ref n4, .int sm, .int ln, .int tt, .int cm, .int dm, .int si, .int mu, .int 1, .int lin, .int oc, .int od]))] := hD
    have hP := hP.sub (ws' := [(h0, .inr (6, [.ref f1, .ref f2, .ref f3, .ref f4, .ref f5, .ref f6, .ref f7, .ref f8, .ref f9, .ref f10, .ref f11, .ref n1, .ref n2, .ref n3, .ref n4, .int sm, .int ln, .int tt, .int cm, .int dm, .int si, .int mu, .int 1, .int lin, .int oc, .int od]))]) [0] rfl
    have hD := hD.sub (ws' := [(h0, .inr (6, [.ref f1, .ref f2, .ref f3, .ref f4, .ref f5, .ref f6, .ref f7, .ref f8, .ref f9, .ref f10, .ref f11, .ref n1, .ref n2, .ref n3, .ref n4, .int sm, .int ln, .int tt, .int cm, .int dm, .int si, .int mu, .int 1, .int lin, .int oc, .int od]))]) [0] (by decide) rfl
    exact e_i () hx hb hr hlk hK hP hD hS rfl rfl dMod_cut_22

set_option maxHeartbeats 4000000 in
set_option maxRecDepth 100000 in
theorem c_Mod_reset (l : Launch) (D : va_G) (cF cI : ClassId) (sz : Nat) (h0 f1 f2 f3 f4 f5 f6 f7 f8 f9 f10 f11 n1 n2 n3 n4 : Nat) (sm : Int32) (ln : Int32) (tt : Int32) (cm : Int32) (dm : Int32) (si : Int32) (mu : Int32) (th : Int32) (lin : Int32) (oc : Int32) (od : Int32) (mm : Nat → UInt32) (mm2 : Nat → UInt32) (wp : Nat → UInt32) (td : Nat → Int32) : Met l yMod_reset (.code yMod_reset cMod_reset 3 (some .int) :: TB) ({ frames := 0, cells := 0, slots := 0, locals := 0 }) (va_Pc [.ref h0] (cPre D cF cI [(h0, .inr (6, [.ref f1, .ref f2, .ref f3, .ref f4, .ref f5, .ref f6, .ref f7, .ref f8, .ref f9, .ref f10, .ref f11, .ref n1, .ref n2, .ref n3, .ref n4, .int sm, .int ln, .int tt, .int cm, .int dm, .int si, .int mu, .int th, .int lin, .int oc, .int od])), (f6, .inl (cF, 4, .inr (.inr (.inl mm)))), (f7, .inl (cF, 4, .inr (.inr (.inl mm2)))), (f10, .inl (cF, 5, .inr (.inr (.inl wp)))), (n4, .inl (cI, 7, .inl td))] sz)) (va_Qi (fun (r : Int32) (_ : Unit) => r = ln) (cB D cF cI (va_A [(h0, .inr (6, [.ref f1, .ref f2, .ref f3, .ref f4, .ref f5, .ref f6, .ref f7, .ref f8, .ref f9, .ref f10, .ref f11, .ref n1, .ref n2, .ref n3, .ref n4, .int sm, .int ln, .int tt, .int cm, .int dm, .int si, .int mu, .int th, .int lin, .int oc, .int od])), (f6, .inl (cF, 4, .inr (.inr (.inl mm)))), (f7, .inl (cF, 4, .inr (.inr (.inl mm2)))), (f10, .inl (cF, 5, .inr (.inr (.inl wp)))), (n4, .inl (cI, 7, .inl td))] sz) (fun _ : Unit => [(h0, .inr (6, [.ref f1, .ref f2, .ref f3, .ref f4, .ref f5, .ref f6, .ref f7, .ref f8, .ref f9, .ref f10, .ref f11, .ref n1, .ref n2, .ref n3, .ref n4, .int sm, .int 0, .int 0, .int 0, .int 0, .int 0, .int 0, .int 0, .int lin, .int 0, .int 0])), (f6, .inl (cF, 4, .inr (.inr (.inl (vf_upd (vf_upd (vf_upd (vf_upd mm 0 FP.fconst0) 1 FP.fconst0) 2 FP.fconst0) 3 FP.fconst0))))), (f7, .inl (cF, 4, .inr (.inr (.inl (vf_upd (vf_upd (vf_upd (vf_upd mm2 0 FP.fconst0) 1 FP.fconst0) 2 FP.fconst0) 3 FP.fconst0))))), (f10, .inl (cF, 5, .inr (.inr (.inl (vf_upd (vf_upd (vf_upd (vf_upd (vf_upd wp 0 FP.fconst0) 1 FP.fconst0) 2 FP.fconst0) 3 FP.fconst0) 4 FP.fconst0))))), (n4, .inl (cI, 7, .inl (upd (upd (upd (upd (upd (upd (upd td 0 0) 1 0) 2 0) 3 0) 4 0) 5 0) 6 0)))])) (va_A [(h0, .inr (6, [.ref f1, .ref f2, .ref f3, .ref f4, .ref f5, .ref f6, .ref f7, .ref f8, .ref f9, .ref f10, .ref f11, .ref n1, .ref n2, .ref n3, .ref n4, .int sm, .int ln, .int tt, .int cm, .int dm, .int si, .int mu, .int th, .int lin, .int oc, .int od])), (f6, .inl (cF, 4, .inr (.inr (.inl mm)))), (f7, .inl (cF, 4, .inr (.inr (.inl mm2)))), (f10, .inl (cF, 5, .inr (.inr (.inl wp)))), (n4, .inl (cI, 7, .inl td))] sz)) 0 0 (va_A [(h0, .inr (6, [.ref f1, .ref f2, .ref f3, .ref f4, .ref f5, .ref f6, .ref f7, .ref f8, .ref f9, .ref f10, .ref f11, .ref n1, .ref n2, .ref n3, .ref n4, .int sm, .int ln, .int tt, .int cm, .int dm, .int si, .int mu, .int th, .int lin, .int oc, .int od])), (f6, .inl (cF, 4, .inr (.inr (.inl mm)))), (f7, .inl (cF, 4, .inr (.inr (.inl mm2)))), (f10, .inl (cF, 5, .inr (.inr (.inl wp)))), (n4, .inl (cI, 7, .inl td))] sz) := by
  refine c_ofW (own := RMod) (by decide) rfl (fun p e s m below meth c hsz hx hb hr hml hown ht hlk hin hP hK hD hmb => ?_)
  subst hsz
  generalize hAe : va_A [(h0, .inr (6, [.ref f1, .ref f2, .ref f3, .ref f4, .ref f5, .ref f6, .ref f7, .ref f8, .ref f9, .ref f10, .ref f11, .ref n1, .ref n2, .ref n3, .ref n4, .int sm, .int ln, .int tt, .int cm, .int dm, .int si, .int mu, .int th, .int lin, .int oc, .int od])), (f6, .inl (cF, 4, .inr (.inr (.inl mm)))), (f7, .inl (cF, 4, .inr (.inr (.inl mm2)))), (f10, .inl (cF, 5, .inr (.inr (.inl wp)))), (n4, .inl (cI, 7, .inl td))] s.heap.size = A at hD ⊢
  have hA : ∀ q : Nat, s.heap.size ≤ q → A q := fun q h => by rw [← hAe]; exact Or.inr h
  have hS : va_S A s.heap s.heap [] := va_S.rf
  have hl := lv_entry ([.ref h0]) (n := 3) (Nat.le_of_ble_eq_true rfl)
  rw [lg_entry_eq]
  generalize (lg_sl ([.ref h0]) ++ List.replicate (3 - (lg_sl ([.ref h0])).length) Slot.unset).toArray = ls at hl ⊢
  have hl : lv_has ls 3 [(0, .ref h0)] := hl
  refine lv_aload_n hx hb dMod_reset_0 rfl (lv_at hl 0 rfl) ?_
  refine lv_iconst (v := 0) hx hb dMod_reset_1 (by decide) ?_
  refine va_put (D := D) (ci := 6) (v := .int 0) (ty := .int) hx hb ht inMod tMod tMod_ok nMod hown hK hP hD hS 0 rfl rfl 22 (by decide) (ht _ kf_Mod_56) (fun _ h9 => h9) rfl (by decide +kernel) rfl rfl (Nat.le_of_ble_eq_true rfl) dMod_reset_2 (fun H locs hP hD hS => ?_)
  have hP : va_P D vwCl [(h0, .inr (6, [.ref f1, .ref f2, .ref f3, .ref f4, .ref f5, .ref f6, .ref f7, .ref f8, .ref f9, .ref f10, .ref f11, .ref n1, .ref n2, .ref n3, .ref n4, .int sm, .int ln, .int tt, .int cm, .int dm, .int si, .int mu, .int 0, .int lin, .int oc, .int od])), (f6, .inl (cF, 4, .inr (.inr (.inl mm)))), (f7, .inl (cF, 4, .inr (.inr (.inl mm2)))), (f10, .inl (cF, 5, .inr (.inr (.inl wp)))), (n4, .inl (cI, 7, .inl td))] H := hP
  have hD : va_D A [(h0, .inr (6, [.ref f1, .ref f2, .ref f3, .ref f4, .ref f5, .ref f6, .ref f7, .ref f8, .ref f9, .ref f10, .ref f11, .ref n1, .ref n2, .ref n3, .ref n4, .int sm, .int ln, .int tt, .int cm, .int dm, .int si, .int mu, .int 0, .int lin, .int oc, .int od])), (f6, .inl (cF, 4, .inr (.inr (.inl mm)))), (f7, .inl (cF, 4, .inr (.inr (.inl mm2)))), (f10, .inl (cF, 5, .inr (.inr (.inl wp)))), (n4, .inl (cI, 7, .inl td))] := hD
  refine lv_aload_n hx hb dMod_reset_5 rfl (lv_at hl 0 rfl) ?_
  refine va_get (D := D) (ci := 6) (v := .int ln) hx hb ht inMod hown hK hP 0 rfl rfl 16 (by decide) (ht _ kf_Mod_104) (fun _ h9 => h9) rfl dMod_reset_6 ?_
  refine lv_istore_n (lv' := [(1, .int ln), (0, .ref h0)]) hx hb dMod_reset_9 rfl hl (by decide) rfl (fun ls hl => ?_)
  refine lv_aload_n hx hb dMod_reset_10 rfl (lv_at hl 1 rfl) ?_
  refine lv_iconst (v := 0) hx hb dMod_reset_11 (by decide) ?_
  refine va_put (D := D) (ci := 6) (v := .int 0) (ty := .int) hx hb ht inMod tMod tMod_ok nMod hown hK hP hD hS 0 rfl rfl 16 (by decide) (ht _ kf_Mod_104) (fun _ h9 => h9) rfl (by decide +kernel) rfl rfl (Nat.le_of_ble_eq_true rfl) dMod_reset_12 (fun H locs hP hD hS => ?_)
  have hP : va_P D vwCl [(h0, .inr (6, [.ref f1, .ref f2, .ref f3, .ref f4, .ref f5, .ref f6, .ref f7, .ref f8, .ref f9, .ref f10, .ref f11, .ref n1, .ref n2, .ref n3, .ref n4, .int sm, .int 0, .int tt, .int cm, .int dm, .int si, .int mu, .int 0, .int lin, .int oc, .int od])), (f6, .inl (cF, 4, .inr (.inr (.inl mm)))), (f7, .inl (cF, 4, .inr (.inr (.inl mm2)))), (f10, .inl (cF, 5, .inr (.inr (.inl wp)))), (n4, .inl (cI, 7, .inl td))] H := hP
  have hD : va_D A [(h0, .inr (6, [.ref f1, .ref f2, .ref f3, .ref f4, .ref f5, .ref f6, .ref f7, .ref f8, .ref f9, .ref f10, .ref f11, .ref n1, .ref n2, .ref n3, .ref n4, .int sm, .int 0, .int tt, .int cm, .int dm, .int si, .int mu, .int 0, .int lin, .int oc, .int od])), (f6, .inl (cF, 4, .inr (.inr (.inl mm)))), (f7, .inl (cF, 4, .inr (.inr (.inl mm2)))), (f10, .inl (cF, 5, .inr (.inr (.inl wp)))), (n4, .inl (cI, 7, .inl td))] := hD
  refine lv_aload_n hx hb dMod_reset_15 rfl (lv_at hl 1 rfl) ?_
  refine lv_iconst (v := 0) hx hb dMod_reset_16 (by decide) ?_
  refine va_put (D := D) (ci := 6) (v := .int 0) (ty := .int) hx hb ht inMod tMod tMod_ok nMod hown hK hP hD hS 0 rfl rfl 17 (by decide) (ht _ kf_Mod_134) (fun _ h9 => h9) rfl (by decide +kernel) rfl rfl (Nat.le_of_ble_eq_true rfl) dMod_reset_17 (fun H locs hP hD hS => ?_)
  have hP : va_P D vwCl [(h0, .inr (6, [.ref f1, .ref f2, .ref f3, .ref f4, .ref f5, .ref f6, .ref f7, .ref f8, .ref f9, .ref f10, .ref f11, .ref n1, .ref n2, .ref n3, .ref n4, .int sm, .int 0, .int 0, .int cm, .int dm, .int si, .int mu, .int 0, .int lin, .int oc, .int od])), (f6, .inl (cF, 4, .inr (.inr (.inl mm)))), (f7, .inl (cF, 4, .inr (.inr (.inl mm2)))), (f10, .inl (cF, 5, .inr (.inr (.inl wp)))), (n4, .inl (cI, 7, .inl td))] H := hP
  have hD : va_D A [(h0, .inr (6, [.ref f1, .ref f2, .ref f3, .ref f4, .ref f5, .ref f6, .ref f7, .ref f8, .ref f9, .ref f10, .ref f11, .ref n1, .ref n2, .ref n3, .ref n4, .int sm, .int 0, .int 0, .int cm, .int dm, .int si, .int mu, .int 0, .int lin, .int oc, .int od])), (f6, .inl (cF, 4, .inr (.inr (.inl mm)))), (f7, .inl (cF, 4, .inr (.inr (.inl mm2)))), (f10, .inl (cF, 5, .inr (.inr (.inl wp)))), (n4, .inl (cI, 7, .inl td))] := hD
  refine lv_aload_n hx hb dMod_reset_20 rfl (lv_at hl 1 rfl) ?_
  refine lv_iconst (v := 0) hx hb dMod_reset_21 (by decide) ?_
  refine va_put (D := D) (ci := 6) (v := .int 0) (ty := .int) hx hb ht inMod tMod tMod_ok nMod hown hK hP hD hS 0 rfl rfl 18 (by decide) (ht _ kf_Mod_131) (fun _ h9 => h9) rfl (by decide +kernel) rfl rfl (Nat.le_of_ble_eq_true rfl) dMod_reset_22 (fun H locs hP hD hS => ?_)
  have hP : va_P D vwCl [(h0, .inr (6, [.ref f1, .ref f2, .ref f3, .ref f4, .ref f5, .ref f6, .ref f7, .ref f8, .ref f9, .ref f10, .ref f11, .ref n1, .ref n2, .ref n3, .ref n4, .int sm, .int 0, .int 0, .int 0, .int dm, .int si, .int mu, .int 0, .int lin, .int oc, .int od])), (f6, .inl (cF, 4, .inr (.inr (.inl mm)))), (f7, .inl (cF, 4, .inr (.inr (.inl mm2)))), (f10, .inl (cF, 5, .inr (.inr (.inl wp)))), (n4, .inl (cI, 7, .inl td))] H := hP
  have hD : va_D A [(h0, .inr (6, [.ref f1, .ref f2, .ref f3, .ref f4, .ref f5, .ref f6, .ref f7, .ref f8, .ref f9, .ref f10, .ref f11, .ref n1, .ref n2, .ref n3, .ref n4, .int sm, .int 0, .int 0, .int 0, .int dm, .int si, .int mu, .int 0, .int lin, .int oc, .int od])), (f6, .inl (cF, 4, .inr (.inr (.inl mm)))), (f7, .inl (cF, 4, .inr (.inr (.inl mm2)))), (f10, .inl (cF, 5, .inr (.inr (.inl wp)))), (n4, .inl (cI, 7, .inl td))] := hD
  refine lv_aload_n hx hb dMod_reset_25 rfl (lv_at hl 1 rfl) ?_
  refine lv_iconst (v := 0) hx hb dMod_reset_26 (by decide) ?_
  refine va_put (D := D) (ci := 6) (v := .int 0) (ty := .int) hx hb ht inMod tMod tMod_ok nMod hown hK hP hD hS 0 rfl rfl 19 (by decide) (ht _ kf_Mod_161) (fun _ h9 => h9) rfl (by decide +kernel) rfl rfl (Nat.le_of_ble_eq_true rfl) dMod_reset_27 (fun H locs hP hD hS => ?_)
  have hP : va_P D vwCl [(h0, .inr (6, [.ref f1, .ref f2, .ref f3, .ref f4, .ref f5, .ref f6, .ref f7, .ref f8, .ref f9, .ref f10, .ref f11, .ref n1, .ref n2, .ref n3, .ref n4, .int sm, .int 0, .int 0, .int 0, .int 0, .int si, .int mu, .int 0, .int lin, .int oc, .int od])), (f6, .inl (cF, 4, .inr (.inr (.inl mm)))), (f7, .inl (cF, 4, .inr (.inr (.inl mm2)))), (f10, .inl (cF, 5, .inr (.inr (.inl wp)))), (n4, .inl (cI, 7, .inl td))] H := hP
  have hD : va_D A [(h0, .inr (6, [.ref f1, .ref f2, .ref f3, .ref f4, .ref f5, .ref f6, .ref f7, .ref f8, .ref f9, .ref f10, .ref f11, .ref n1, .ref n2, .ref n3, .ref n4, .int sm, .int 0, .int 0, .int 0, .int 0, .int si, .int mu, .int 0, .int lin, .int oc, .int od])), (f6, .inl (cF, 4, .inr (.inr (.inl mm)))), (f7, .inl (cF, 4, .inr (.inr (.inl mm2)))), (f10, .inl (cF, 5, .inr (.inr (.inl wp)))), (n4, .inl (cI, 7, .inl td))] := hD
  refine lv_aload_n hx hb dMod_reset_30 rfl (lv_at hl 1 rfl) ?_
  refine lv_iconst (v := 0) hx hb dMod_reset_31 (by decide) ?_
  refine va_put (D := D) (ci := 6) (v := .int 0) (ty := .int) hx hb ht inMod tMod tMod_ok nMod hown hK hP hD hS 0 rfl rfl 20 (by decide) (ht _ kf_Mod_149) (fun _ h9 => h9) rfl (by decide +kernel) rfl rfl (Nat.le_of_ble_eq_true rfl) dMod_reset_32 (fun H locs hP hD hS => ?_)
  have hP : va_P D vwCl [(h0, .inr (6, [.ref f1, .ref f2, .ref f3, .ref f4, .ref f5, .ref f6, .ref f7, .ref f8, .ref f9, .ref f10, .ref f11, .ref n1, .ref n2, .ref n3, .ref n4, .int sm, .int 0, .int 0, .int 0, .int 0, .int 0, .int mu, .int 0, .int lin, .int oc, .int od])), (f6, .inl (cF, 4, .inr (.inr (.inl mm)))), (f7, .inl (cF, 4, .inr (.inr (.inl mm2)))), (f10, .inl (cF, 5, .inr (.inr (.inl wp)))), (n4, .inl (cI, 7, .inl td))] H := hP
  have hD : va_D A [(h0, .inr (6, [.ref f1, .ref f2, .ref f3, .ref f4, .ref f5, .ref f6, .ref f7, .ref f8, .ref f9, .ref f10, .ref f11, .ref n1, .ref n2, .ref n3, .ref n4, .int sm, .int 0, .int 0, .int 0, .int 0, .int 0, .int mu, .int 0, .int lin, .int oc, .int od])), (f6, .inl (cF, 4, .inr (.inr (.inl mm)))), (f7, .inl (cF, 4, .inr (.inr (.inl mm2)))), (f10, .inl (cF, 5, .inr (.inr (.inl wp)))), (n4, .inl (cI, 7, .inl td))] := hD
  refine lv_aload_n hx hb dMod_reset_35 rfl (lv_at hl 1 rfl) ?_
  refine lv_iconst (v := 0) hx hb dMod_reset_36 (by decide) ?_
  refine va_put (D := D) (ci := 6) (v := .int 0) (ty := .int) hx hb ht inMod tMod tMod_ok nMod hown hK hP hD hS 0 rfl rfl 21 (by decide) (ht _ kf_Mod_138) (fun _ h9 => h9) rfl (by decide +kernel) rfl rfl (Nat.le_of_ble_eq_true rfl) dMod_reset_37 (fun H locs hP hD hS => ?_)
  have hP : va_P D vwCl [(h0, .inr (6, [.ref f1, .ref f2, .ref f3, .ref f4, .ref f5, .ref f6, .ref f7, .ref f8, .ref f9, .ref f10, .ref f11, .ref n1, .ref n2, .ref n3, .ref n4, .int sm, .int 0, .int 0, .int 0, .int 0, .int 0, .int 0, .int 0, .int lin, .int oc, .int od])), (f6, .inl (cF, 4, .inr (.inr (.inl mm)))), (f7, .inl (cF, 4, .inr (.inr (.inl mm2)))), (f10, .inl (cF, 5, .inr (.inr (.inl wp)))), (n4, .inl (cI, 7, .inl td))] H := hP
  have hD : va_D A [(h0, .inr (6, [.ref f1, .ref f2, .ref f3, .ref f4, .ref f5, .ref f6, .ref f7, .ref f8, .ref f9, .ref f10, .ref f11, .ref n1, .ref n2, .ref n3, .ref n4, .int sm, .int 0, .int 0, .int 0, .int 0, .int 0, .int 0, .int 0, .int lin, .int oc, .int od])), (f6, .inl (cF, 4, .inr (.inr (.inl mm)))), (f7, .inl (cF, 4, .inr (.inr (.inl mm2)))), (f10, .inl (cF, 5, .inr (.inr (.inl wp)))), (n4, .inl (cI, 7, .inl td))] := hD
  refine lv_aload_n hx hb dMod_reset_40 rfl (lv_at hl 1 rfl) ?_
  refine lv_iconst (v := 0) hx hb dMod_reset_41 (by decide) ?_
  refine va_put (D := D) (ci := 6) (v := .int 0) (ty := .boolean) hx hb ht inMod tMod tMod_ok nMod hown hK hP hD hS 0 rfl rfl 24 (by decide) (ht _ kf_Mod_128) (fun _ h9 => h9) rfl (by decide +kernel) rfl rfl (Nat.le_of_ble_eq_true rfl) dMod_reset_42 (fun H locs hP hD hS => ?_)
  have hP : va_P D vwCl [(h0, .inr (6, [.ref f1, .ref f2, .ref f3, .ref f4, .ref f5, .ref f6, .ref f7, .ref f8, .ref f9, .ref f10, .ref f11, .ref n1, .ref n2, .ref n3, .ref n4, .int sm, .int 0, .int 0, .int 0, .int 0, .int 0, .int 0, .int 0, .int lin, .int 0, .int od])), (f6, .inl (cF, 4, .inr (.inr (.inl mm)))), (f7, .inl (cF, 4, .inr (.inr (.inl mm2)))), (f10, .inl (cF, 5, .inr (.inr (.inl wp)))), (n4, .inl (cI, 7, .inl td))] H := hP
  have hD : va_D A [(h0, .inr (6, [.ref f1, .ref f2, .ref f3, .ref f4, .ref f5, .ref f6, .ref f7, .ref f8, .ref f9, .ref f10, .ref f11, .ref n1, .ref n2, .ref n3, .ref n4, .int sm, .int 0, .int 0, .int 0, .int 0, .int 0, .int 0, .int 0, .int lin, .int 0, .int od])), (f6, .inl (cF, 4, .inr (.inr (.inl mm)))), (f7, .inl (cF, 4, .inr (.inr (.inl mm2)))), (f10, .inl (cF, 5, .inr (.inr (.inl wp)))), (n4, .inl (cI, 7, .inl td))] := hD
  refine lv_aload_n hx hb dMod_reset_45 rfl (lv_at hl 1 rfl) ?_
  refine lv_iconst (v := 0) hx hb dMod_reset_46 (by decide) ?_
  refine va_put (D := D) (ci := 6) (v := .int 0) (ty := .boolean) hx hb ht inMod tMod tMod_ok nMod hown hK hP hD hS 0 rfl rfl 25 (by decide) (ht _ kf_Mod_158) (fun _ h9 => h9) rfl (by decide +kernel) rfl rfl (Nat.le_of_ble_eq_true rfl) dMod_reset_47 (fun H locs hP hD hS => ?_)
  have hP : va_P D vwCl [(h0, .inr (6, [.ref f1, .ref f2, .ref f3, .ref f4, .ref f5, .ref f6, .ref f7, .ref f8, .ref f9, .ref f10, .ref f11, .ref n1, .ref n2, .ref n3, .ref n4, .int sm, .int 0, .int 0, .int 0, .int 0, .int 0, .int 0, .int 0, .int lin, .int 0, .int 0])), (f6, .inl (cF, 4, .inr (.inr (.inl mm)))), (f7, .inl (cF, 4, .inr (.inr (.inl mm2)))), (f10, .inl (cF, 5, .inr (.inr (.inl wp)))), (n4, .inl (cI, 7, .inl td))] H := hP
  have hD : va_D A [(h0, .inr (6, [.ref f1, .ref f2, .ref f3, .ref f4, .ref f5, .ref f6, .ref f7, .ref f8, .ref f9, .ref f10, .ref f11, .ref n1, .ref n2, .ref n3, .ref n4, .int sm, .int 0, .int 0, .int 0, .int 0, .int 0, .int 0, .int 0, .int lin, .int 0, .int 0])), (f6, .inl (cF, 4, .inr (.inr (.inl mm)))), (f7, .inl (cF, 4, .inr (.inr (.inl mm2)))), (f10, .inl (cF, 5, .inr (.inr (.inl wp)))), (n4, .inl (cI, 7, .inl td))] := hD
  refine lv_iconst (v := 0) hx hb dMod_reset_50 (by decide) ?_
  refine lv_istore_n (lv' := [(2, .int 0), (1, .int ln), (0, .ref h0)]) hx hb dMod_reset_51 rfl hl (by decide) rfl (fun ls hl => ?_)
  refine lv_iload_n hx hb dMod_reset_52 rfl (lv_at hl 0 rfl) ?_
  refine lv_iconst (v := 4) hx hb dMod_reset_53 (by decide) ?_
  refine lv_icmp_ge (tgt := 77) hx hb dMod_reset_54 (by decide) (fun c9 => absurd c9 (by decide)) (fun _ => ?_)
  refine lv_aload_n hx hb dMod_reset_57 rfl (lv_at hl 2 rfl) ?_
  refine va_get (D := D) (ci := 6) (v := .ref f6) hx hb ht inMod hown hK hP 0 rfl rfl 5 (by decide) (ht _ kf_Mod_25) (fun _ h9 => h9) rfl dMod_reset_58 ?_
  refine lv_iload_n hx hb dMod_reset_61 rfl (lv_at hl 0 rfl) ?_
  refine lv_fconst0 hx hb dMod_reset_62 ?_
  refine k_fast (j := 0) (f1 := vf_upd mm 0 FP.fconst0) hx hb hK hP hD hS 1 0 rfl rfl (by unfold vp_in; decide) rfl rfl dMod_reset_63 (fun H locs hP hD hS => ?_)
  have hP : va_P D vwCl [(h0, .inr (6, [.ref f1, .ref f2, .ref f3, .ref f4, .ref f5, .ref f6, .ref f7, .ref f8, .ref f9, .ref f10, .ref f11, .ref n1, .ref n2, .ref n3, .ref n4, .int sm, .int 0, .int 0, .int 0, .int 0, .int 0, .int 0, .int 0, .int lin, .int 0, .int 0])), (f6, .inl (cF, 4, .inr (.inr (.inl (vf_upd mm 0 FP.fconst0))))), (f7, .inl (cF, 4, .inr (.inr (.inl mm2)))), (f10, .inl (cF, 5, .inr (.inr (.inl wp)))), (n4, .inl (cI, 7, .inl td))] H := hP
  have hD : va_D A [(h0, .inr (6, [.ref f1, .ref f2, .ref f3, .ref f4, .ref f5, .ref f6, .ref f7, .ref f8, .ref f9, .ref f10, .ref f11, .ref n1, .ref n2, .ref n3, .ref n4, .int sm, .int 0, .int 0, .int 0, .int 0, .int 0, .int 0, .int 0, .int lin, .int 0, .int 0])), (f6, .inl (cF, 4, .inr (.inr (.inl (vf_upd mm 0 FP.fconst0))))), (f7, .inl (cF, 4, .inr (.inr (.inl mm2)))), (f10, .inl (cF, 5, .inr (.inr (.inl wp)))), (n4, .inl (cI, 7, .inl td))] := hD
  refine lv_aload_n hx hb dMod_reset_64 rfl (lv_at hl 2 rfl) ?_
  refine va_get (D := D) (ci := 6) (v := .ref f7) hx hb ht inMod hown hK hP 0 rfl rfl 6 (by decide) (ht _ kf_Mod_28) (fun _ h9 => h9) rfl dMod_reset_65 ?_
  refine lv_iload_n hx hb dMod_reset_68 rfl (lv_at hl 0 rfl) ?_
  refine lv_fconst0 hx hb dMod_reset_69 ?_
  refine k_fast (j := 0) (f1 := vf_upd mm2 0 FP.fconst0) hx hb hK hP hD hS 2 0 rfl rfl (by unfold vp_in; decide) rfl rfl dMod_reset_70 (fun H locs hP hD hS => ?_)
  have hP : va_P D vwCl [(h0, .inr (6, [.ref f1, .ref f2, .ref f3, .ref f4, .ref f5, .ref f6, .ref f7, .ref f8, .ref f9, .ref f10, .ref f11, .ref n1, .ref n2, .ref n3, .ref n4, .int sm, .int 0, .int 0, .int 0, .int 0, .int 0, .int 0, .int 0, .int lin, .int 0, .int 0])), (f6, .inl (cF, 4, .inr (.inr (.inl (vf_upd mm 0 FP.fconst0))))), (f7, .inl (cF, 4, .inr (.inr (.inl (vf_upd mm2 0 FP.fconst0))))), (f10, .inl (cF, 5, .inr (.inr (.inl wp)))), (n4, .inl (cI, 7, .inl td))] H := hP
  have hD : va_D A [(h0, .inr (6, [.ref f1, .ref f2, .ref f3, .ref f4, .ref f5, .ref f6, .ref f7, .ref f8, .ref f9, .ref f10, .ref f11, .ref n1, .ref n2, .ref n3, .ref n4, .int sm, .int 0, .int 0, .int 0, .int 0, .int 0, .int 0, .int 0, .int lin, .int 0, .int 0])), (f6, .inl (cF, 4, .inr (.inr (.inl (vf_upd mm 0 FP.fconst0))))), (f7, .inl (cF, 4, .inr (.inr (.inl (vf_upd mm2 0 FP.fconst0))))), (f10, .inl (cF, 5, .inr (.inr (.inl wp)))), (n4, .inl (cI, 7, .inl td))] := hD
  refine lv_iinc (v := 1) (lv' := [(2, .int 1), (1, .int ln), (0, .ref h0)]) hx hb dMod_reset_71 hl (k := 0) rfl (by decide) (by decide) rfl (fun ls hl => ?_)
  refine lv_goto (tgt := 52) hx hb dMod_reset_74 (by decide) ?_
  refine lv_iload_n hx hb dMod_reset_52 rfl (lv_at hl 0 rfl) ?_
  refine lv_iconst (v := 4) hx hb dMod_reset_53 (by decide) ?_
  refine lv_icmp_ge (tgt := 77) hx hb dMod_reset_54 (by decide) (fun c9 => absurd c9 (by decide)) (fun _ => ?_)
  refine lv_aload_n hx hb dMod_reset_57 rfl (lv_at hl 2 rfl) ?_
  refine va_get (D := D) (ci := 6) (v := .ref f6) hx hb ht inMod hown hK hP 0 rfl rfl 5 (by decide) (ht _ kf_Mod_25) (fun _ h9 => h9) rfl dMod_reset_58 ?_
  refine lv_iload_n hx hb dMod_reset_61 rfl (lv_at hl 0 rfl) ?_
  refine lv_fconst0 hx hb dMod_reset_62 ?_
  refine k_fast (j := 1) (f1 := vf_upd (vf_upd mm 0 FP.fconst0) 1 FP.fconst0) hx hb hK hP hD hS 1 0 rfl rfl (by unfold vp_in; decide) rfl rfl dMod_reset_63 (fun H locs hP hD hS => ?_)
  have hP : va_P D vwCl [(h0, .inr (6, [.ref f1, .ref f2, .ref f3, .ref f4, .ref f5, .ref f6, .ref f7, .ref f8, .ref f9, .ref f10, .ref f11, .ref n1, .ref n2, .ref n3, .ref n4, .int sm, .int 0, .int 0, .int 0, .int 0, .int 0, .int 0, .int 0, .int lin, .int 0, .int 0])), (f6, .inl (cF, 4, .inr (.inr (.inl (vf_upd (vf_upd mm 0 FP.fconst0) 1 FP.fconst0))))), (f7, .inl (cF, 4, .inr (.inr (.inl (vf_upd mm2 0 FP.fconst0))))), (f10, .inl (cF, 5, .inr (.inr (.inl wp)))), (n4, .inl (cI, 7, .inl td))] H := hP
  have hD : va_D A [(h0, .inr (6, [.ref f1, .ref f2, .ref f3, .ref f4, .ref f5, .ref f6, .ref f7, .ref f8, .ref f9, .ref f10, .ref f11, .ref n1, .ref n2, .ref n3, .ref n4, .int sm, .int 0, .int 0, .int 0, .int 0, .int 0, .int 0, .int 0, .int lin, .int 0, .int 0])), (f6, .inl (cF, 4, .inr (.inr (.inl (vf_upd (vf_upd mm 0 FP.fconst0) 1 FP.fconst0))))), (f7, .inl (cF, 4, .inr (.inr (.inl (vf_upd mm2 0 FP.fconst0))))), (f10, .inl (cF, 5, .inr (.inr (.inl wp)))), (n4, .inl (cI, 7, .inl td))] := hD
  refine lv_aload_n hx hb dMod_reset_64 rfl (lv_at hl 2 rfl) ?_
  refine va_get (D := D) (ci := 6) (v := .ref f7) hx hb ht inMod hown hK hP 0 rfl rfl 6 (by decide) (ht _ kf_Mod_28) (fun _ h9 => h9) rfl dMod_reset_65 ?_
  refine lv_iload_n hx hb dMod_reset_68 rfl (lv_at hl 0 rfl) ?_
  refine lv_fconst0 hx hb dMod_reset_69 ?_
  refine k_fast (j := 1) (f1 := vf_upd (vf_upd mm2 0 FP.fconst0) 1 FP.fconst0) hx hb hK hP hD hS 2 0 rfl rfl (by unfold vp_in; decide) rfl rfl dMod_reset_70 (fun H locs hP hD hS => ?_)
  have hP : va_P D vwCl [(h0, .inr (6, [.ref f1, .ref f2, .ref f3, .ref f4, .ref f5, .ref f6, .ref f7, .ref f8, .ref f9, .ref f10, .ref f11, .ref n1, .ref n2, .ref n3, .ref n4, .int sm, .int 0, .int 0, .int 0, .int 0, .int 0, .int 0, .int 0, .int lin, .int 0, .int 0])), (f6, .inl (cF, 4, .inr (.inr (.inl (vf_upd (vf_upd mm 0 FP.fconst0) 1 FP.fconst0))))), (f7, .inl (cF, 4, .inr (.inr (.inl (vf_upd (vf_upd mm2 0 FP.fconst0) 1 FP.fconst0))))), (f10, .inl (cF, 5, .inr (.inr (.inl wp)))), (n4, .inl (cI, 7, .inl td))] H := hP
  have hD : va_D A [(h0, .inr (6, [.ref f1, .ref f2, .ref f3, .ref f4, .ref f5, .ref f6, .ref f7, .ref f8, .ref f9, .ref f10, .ref f11, .ref n1, .ref n2, .ref n3, .ref n4, .int sm, .int 0, .int 0, .int 0, .int 0, .int 0, .int 0, .int 0, .int lin, .int 0, .int 0])), (f6, .inl (cF, 4, .inr (.inr (.inl (vf_upd (vf_upd mm 0 FP.fconst0) 1 FP.fconst0))))), (f7, .inl (cF, 4, .inr (.inr (.inl (vf_upd (vf_upd mm2 0 FP.fconst0) 1 FP.fconst0))))), (f10, .inl (cF, 5, .inr (.inr (.inl wp)))), (n4, .inl (cI, 7, .inl td))] := hD
  refine lv_iinc (v := 2) (lv' := [(2, .int 2), (1, .int ln), (0, .ref h0)]) hx hb dMod_reset_71 hl (k := 0) rfl (by decide) (by decide) rfl (fun ls hl => ?_)
  refine lv_goto (tgt := 52) hx hb dMod_reset_74 (by decide) ?_
  refine lv_iload_n hx hb dMod_reset_52 rfl (lv_at hl 0 rfl) ?_
  refine lv_iconst (v := 4) hx hb dMod_reset_53 (by decide) ?_
  refine lv_icmp_ge (tgt := 77) hx hb dMod_reset_54 (by decide) (fun c9 => absurd c9 (by decide)) (fun _ => ?_)
  refine lv_aload_n hx hb dMod_reset_57 rfl (lv_at hl 2 rfl) ?_
  refine va_get (D := D) (ci := 6) (v := .ref f6) hx hb ht inMod hown hK hP 0 rfl rfl 5 (by decide) (ht _ kf_Mod_25) (fun _ h9 => h9) rfl dMod_reset_58 ?_
  refine lv_iload_n hx hb dMod_reset_61 rfl (lv_at hl 0 rfl) ?_
  refine lv_fconst0 hx hb dMod_reset_62 ?_
  refine k_fast (j := 2) (f1 := vf_upd (vf_upd (vf_upd mm 0 FP.fconst0) 1 FP.fconst0) 2 FP.fconst0) hx hb hK hP hD hS 1 0 rfl rfl (by unfold vp_in; decide) rfl rfl dMod_reset_63 (fun H locs hP hD hS => ?_)
  have hP : va_P D vwCl [(h0, .inr (6, [.ref f1, .ref f2, .ref f3, .ref f4, .ref f5, .ref f6, .ref f7, .ref f8, .ref f9, .ref f10, .ref f11, .ref n1, .ref n2, .ref n3, .ref n4, .int sm, .int 0, .int 0, .int 0, .int 0, .int 0, .int 0, .int 0, .int lin, .int 0, .int 0])), (f6, .inl (cF, 4, .inr (.inr (.inl (vf_upd (vf_upd (vf_upd mm 0 FP.fconst0) 1 FP.fconst0) 2 FP.fconst0))))), (f7, .inl (cF, 4, .inr (.inr (.inl (vf_upd (vf_upd mm2 0 FP.fconst0) 1 FP.fconst0))))), (f10, .inl (cF, 5, .inr (.inr (.inl wp)))), (n4, .inl (cI, 7, .inl td))] H := hP
  have hD : va_D A [(h0, .inr (6, [.ref f1, .ref f2, .ref f3, .ref f4, .ref f5, .ref f6, .ref f7, .ref f8, .ref f9, .ref f10, .ref f11, .ref n1, .ref n2, .ref n3, .ref n4, .int sm, .int 0, .int 0, .int 0, .int 0, .int 0, .int 0, .int 0, .int lin, .int 0, .int 0])), (f6, .inl (cF, 4, .inr (.inr (.inl (vf_upd (vf_upd (vf_upd mm 0 FP.fconst0) 1 FP.fconst0) 2 FP.fconst0))))), (f7, .inl (cF, 4, .inr (.inr (.inl (vf_upd (vf_upd mm2 0 FP.fconst0) 1 FP.fconst0))))), (f10, .inl (cF, 5, .inr (.inr (.inl wp)))), (n4, .inl (cI, 7, .inl td))] := hD
  refine lv_aload_n hx hb dMod_reset_64 rfl (lv_at hl 2 rfl) ?_
  refine va_get (D := D) (ci := 6) (v := .ref f7) hx hb ht inMod hown hK hP 0 rfl rfl 6 (by decide) (ht _ kf_Mod_28) (fun _ h9 => h9) rfl dMod_reset_65 ?_
  refine lv_iload_n hx hb dMod_reset_68 rfl (lv_at hl 0 rfl) ?_
  refine lv_fconst0 hx hb dMod_reset_69 ?_
  refine k_fast (j := 2) (f1 := vf_upd (vf_upd (vf_upd mm2 0 FP.fconst0) 1 FP.fconst0) 2 FP.fconst0) hx hb hK hP hD hS 2 0 rfl rfl (by unfold vp_in; decide) rfl rfl dMod_reset_70 (fun H locs hP hD hS => ?_)
  have hP : va_P D vwCl [(h0, .inr (6, [.ref f1, .ref f2, .ref f3, .ref f4, .ref f5, .ref f6, .ref f7, .ref f8, .ref f9, .ref f10, .ref f11, .ref n1, .ref n2, .ref n3, .ref n4, .int sm, .int 0, .int 0, .int 0, .int 0, .int 0, .int 0, .int 0, .int lin, .int 0, .int 0])), (f6, .inl (cF, 4, .inr (.inr (.inl (vf_upd (vf_upd (vf_upd mm 0 FP.fconst0) 1 FP.fconst0) 2 FP.fconst0))))), (f7, .inl (cF, 4, .inr (.inr (.inl (vf_upd (vf_upd (vf_upd mm2 0 FP.fconst0) 1 FP.fconst0) 2 FP.fconst0))))), (f10, .inl (cF, 5, .inr (.inr (.inl wp)))), (n4, .inl (cI, 7, .inl td))] H := hP
  have hD : va_D A [(h0, .inr (6, [.ref f1, .ref f2, .ref f3, .ref f4, .ref f5, .ref f6, .ref f7, .ref f8, .ref f9, .ref f10, .ref f11, .ref n1, .ref n2, .ref n3, .ref n4, .int sm, .int 0, .int 0, .int 0, .int 0, .int 0, .int 0, .int 0, .int lin, .int 0, .int 0])), (f6, .inl (cF, 4, .inr (.inr (.inl (vf_upd (vf_upd (vf_upd mm 0 FP.fconst0) 1 FP.fconst0) 2 FP.fconst0))))), (f7, .inl (cF, 4, .inr (.inr (.inl (vf_upd (vf_upd (vf_upd mm2 0 FP.fconst0) 1 FP.fconst0) 2 FP.fconst0))))), (f10, .inl (cF, 5, .inr (.inr (.inl wp)))), (n4, .inl (cI, 7, .inl td))] := hD
  refine lv_iinc (v := 3) (lv' := [(2, .int 3), (1, .int ln), (0, .ref h0)]) hx hb dMod_reset_71 hl (k := 0) rfl (by decide) (by decide) rfl (fun ls hl => ?_)
  refine lv_goto (tgt := 52) hx hb dMod_reset_74 (by decide) ?_
  refine lv_iload_n hx hb dMod_reset_52 rfl (lv_at hl 0 rfl) ?_
  refine lv_iconst (v := 4) hx hb dMod_reset_53 (by decide) ?_
  refine lv_icmp_ge (tgt := 77) hx hb dMod_reset_54 (by decide) (fun c9 => absurd c9 (by decide)) (fun _ => ?_)
  refine lv_aload_n hx hb dMod_reset_57 rfl (lv_at hl 2 rfl) ?_
  refine va_get (D := D) (ci := 6) (v := .ref f6) hx hb ht inMod hown hK hP 0 rfl rfl 5 (by decide) (ht _ kf_Mod_25) (fun _ h9 => h9) rfl dMod_reset_58 ?_
  refine lv_iload_n hx hb dMod_reset_61 rfl (lv_at hl 0 rfl) ?_
  refine lv_fconst0 hx hb dMod_reset_62 ?_
  refine k_fast (j := 3) (f1 := vf_upd (vf_upd (vf_upd (vf_upd mm 0 FP.fconst0) 1 FP.fconst0) 2 FP.fconst0) 3 FP.fconst0) hx hb hK hP hD hS 1 0 rfl rfl (by unfold vp_in; decide) rfl rfl dMod_reset_63 (fun H locs hP hD hS => ?_)
  have hP : va_P D vwCl [(h0, .inr (6, [.ref f1, .ref f2, .ref f3, .ref f4, .ref f5, .ref f6, .ref f7, .ref f8, .ref f9, .ref f10, .ref f11, .ref n1, .ref n2, .ref n3, .ref n4, .int sm, .int 0, .int 0, .int 0, .int 0, .int 0, .int 0, .int 0, .int lin, .int 0, .int 0])), (f6, .inl (cF, 4, .inr (.inr (.inl (vf_upd (vf_upd (vf_upd (vf_upd mm 0 FP.fconst0) 1 FP.fconst0) 2 FP.fconst0) 3 FP.fconst0))))), (f7, .inl (cF, 4, .inr (.inr (.inl (vf_upd (vf_upd (vf_upd mm2 0 FP.fconst0) 1 FP.fconst0) 2 FP.fconst0))))), (f10, .inl (cF, 5, .inr (.inr (.inl wp)))), (n4, .inl (cI, 7, .inl td))] H := hP
  have hD : va_D A [(h0, .inr (6, [.ref f1, .ref f2, .ref f3, .ref f4, .ref f5, .ref f6, .ref f7, .ref f8, .ref f9, .ref f10, .ref f11, .ref n1, .ref n2, .ref n3, .ref n4, .int sm, .int 0, .int 0, .int 0, .int 0, .int 0, .int 0, .int 0, .int lin, .int 0, .int 0])), (f6, .inl (cF, 4, .inr (.inr (.inl (vf_upd (vf_upd (vf_upd (vf_upd mm 0 FP.fconst0) 1 FP.fconst0) 2 FP.fconst0) 3 FP.fconst0))))), (f7, .inl (cF, 4, .inr (.inr (.inl (vf_upd (vf_upd (vf_upd mm2 0 FP.fconst0) 1 FP.fconst0) 2 FP.fconst0))))), (f10, .inl (cF, 5, .inr (.inr (.inl wp)))), (n4, .inl (cI, 7, .inl td))] := hD
  refine lv_aload_n hx hb dMod_reset_64 rfl (lv_at hl 2 rfl) ?_
  refine va_get (D := D) (ci := 6) (v := .ref f7) hx hb ht inMod hown hK hP 0 rfl rfl 6 (by decide) (ht _ kf_Mod_28) (fun _ h9 => h9) rfl dMod_reset_65 ?_
  refine lv_iload_n hx hb dMod_reset_68 rfl (lv_at hl 0 rfl) ?_
  refine lv_fconst0 hx hb dMod_reset_69 ?_
  refine k_fast (j := 3) (f1 := vf_upd (vf_upd (vf_upd (vf_upd mm2 0 FP.fconst0) 1 FP.fconst0) 2 FP.fconst0) 3 FP.fconst0) hx hb hK hP hD hS 2 0 rfl rfl (by unfold vp_in; decide) rfl rfl dMod_reset_70 (fun H locs hP hD hS => ?_)
  have hP : va_P D vwCl [(h0, .inr (6, [.ref f1, .ref f2, .ref f3, .ref f4, .ref f5, .ref f6, .ref f7, .ref f8, .ref f9, .ref f10, .ref f11, .ref n1, .ref n2, .ref n3, .ref n4, .int sm, .int 0, .int 0, .int 0, .int 0, .int 0, .int 0, .int 0, .int lin, .int 0, .int 0])), (f6, .inl (cF, 4, .inr (.inr (.inl (vf_upd (vf_upd (vf_upd (vf_upd mm 0 FP.fconst0) 1 FP.fconst0) 2 FP.fconst0) 3 FP.fconst0))))), (f7, .inl (cF, 4, .inr (.inr (.inl (vf_upd (vf_upd (vf_upd (vf_upd mm2 0 FP.fconst0) 1 FP.fconst0) 2 FP.fconst0) 3 FP.fconst0))))), (f10, .inl (cF, 5, .inr (.inr (.inl wp)))), (n4, .inl (cI, 7, .inl td))] H := hP
  have hD : va_D A [(h0, .inr (6, [.ref f1, .ref f2, .ref f3, .ref f4, .ref f5, .ref f6, .ref f7, .ref f8, .ref f9, .ref f10, .ref f11, .ref n1, .ref n2, .ref n3, .ref n4, .int sm, .int 0, .int 0, .int 0, .int 0, .int 0, .int 0, .int 0, .int lin, .int 0, .int 0])), (f6, .inl (cF, 4, .inr (.inr (.inl (vf_upd (vf_upd (vf_upd (vf_upd mm 0 FP.fconst0) 1 FP.fconst0) 2 FP.fconst0) 3 FP.fconst0))))), (f7, .inl (cF, 4, .inr (.inr (.inl (vf_upd (vf_upd (vf_upd (vf_upd mm2 0 FP.fconst0) 1 FP.fconst0) 2 FP.fconst0) 3 FP.fconst0))))), (f10, .inl (cF, 5, .inr (.inr (.inl wp)))), (n4, .inl (cI, 7, .inl td))] := hD
  refine lv_iinc (v := 4) (lv' := [(2, .int 4), (1, .int ln), (0, .ref h0)]) hx hb dMod_reset_71 hl (k := 0) rfl (by decide) (by decide) rfl (fun ls hl => ?_)
  refine lv_goto (tgt := 52) hx hb dMod_reset_74 (by decide) ?_
  refine lv_iload_n hx hb dMod_reset_52 rfl (lv_at hl 0 rfl) ?_
  refine lv_iconst (v := 4) hx hb dMod_reset_53 (by decide) ?_
  refine lv_icmp_ge (tgt := 77) hx hb dMod_reset_54 (by decide) (fun _ => ?_) (fun c9 => absurd (by decide) c9)
  refine lv_iconst (v := 0) hx hb dMod_reset_77 (by decide) ?_
  refine lv_istore_n (lv' := [(2, .int 0), (1, .int ln), (0, .ref h0)]) hx hb dMod_reset_78 rfl hl (by decide) rfl (fun ls hl => ?_)
  refine lv_iload_n hx hb dMod_reset_79 rfl (lv_at hl 0 rfl) ?_
  refine lv_iconst (v := 5) hx hb dMod_reset_80 (by decide) ?_
  refine lv_icmp_ge (tgt := 97) hx hb dMod_reset_81 (by decide) (fun c9 => absurd c9 (by decide)) (fun _ => ?_)
  refine lv_aload_n hx hb dMod_reset_84 rfl (lv_at hl 2 rfl) ?_
  refine va_get (D := D) (ci := 6) (v := .ref f10) hx hb ht inMod hown hK hP 0 rfl rfl 9 (by decide) (ht _ kf_Mod_37) (fun _ h9 => h9) rfl dMod_reset_85 ?_
  refine lv_iload_n hx hb dMod_reset_88 rfl (lv_at hl 0 rfl) ?_
  refine lv_fconst0 hx hb dMod_reset_89 ?_
  refine k_fast (j := 0) (f1 := vf_upd wp 0 FP.fconst0) hx hb hK hP hD hS 3 0 rfl rfl (by unfold vp_in; decide) rfl rfl dMod_reset_90 (fun H locs hP hD hS => ?_)
  have hP : va_P D vwCl [(h0, .inr (6, [.ref f1, .ref f2, .ref f3, .ref f4, .ref f5, .ref f6, .ref f7, .ref f8, .ref f9, .ref f10, .ref f11, .ref n1, .ref n2, .ref n3, .ref n4, .int sm, .int 0, .int 0, .int 0, .int 0, .int 0, .int 0, .int 0, .int lin, .int 0, .int 0])), (f6, .inl (cF, 4, .inr (.inr (.inl (vf_upd (vf_upd (vf_upd (vf_upd mm 0 FP.fconst0) 1 FP.fconst0) 2 FP.fconst0) 3 FP.fconst0))))), (f7, .inl (cF, 4, .inr (.inr (.inl (vf_upd (vf_upd (vf_upd (vf_upd mm2 0 FP.fconst0) 1 FP.fconst0) 2 FP.fconst0) 3 FP.fconst0))))), (f10, .inl (cF, 5, .inr (.inr (.inl (vf_upd wp 0 FP.fconst0))))), (n4, .inl (cI, 7, .inl td))] H := hP
  have hD : va_D A [(h0, .inr (6, [.ref f1, .ref f2, .ref f3, .ref f4, .ref f5, .ref f6, .ref f7, .ref f8, .ref f9, .ref f10, .ref f11, .ref n1, .ref n2, .ref n3, .ref n4, .int sm, .int 0, .int 0, .int 0, .int 0, .int 0, .int 0, .int 0, .int lin, .int 0, .int 0])), (f6, .inl (cF, 4, .inr (.inr (.inl (vf_upd (vf_upd (vf_upd (vf_upd mm 0 FP.fconst0) 1 FP.fconst0) 2 FP.fconst0) 3 FP.fconst0))))), (f7, .inl (cF, 4, .inr (.inr (.inl (vf_upd (vf_upd (vf_upd (vf_upd mm2 0 FP.fconst0) 1 FP.fconst0) 2 FP.fconst0) 3 FP.fconst0))))), (f10, .inl (cF, 5, .inr (.inr (.inl (vf_upd wp 0 FP.fconst0))))), (n4, .inl (cI, 7, .inl td))] := hD
  refine lv_iinc (v := 1) (lv' := [(2, .int 1), (1, .int ln), (0, .ref h0)]) hx hb dMod_reset_91 hl (k := 0) rfl (by decide) (by decide) rfl (fun ls hl => ?_)
  refine lv_goto (tgt := 79) hx hb dMod_reset_94 (by decide) ?_
  refine lv_iload_n hx hb dMod_reset_79 rfl (lv_at hl 0 rfl) ?_
  refine lv_iconst (v := 5) hx hb dMod_reset_80 (by decide) ?_
  refine lv_icmp_ge (tgt := 97) hx hb dMod_reset_81 (by decide) (fun c9 => absurd c9 (by decide)) (fun _ => ?_)
  refine lv_aload_n hx hb dMod_reset_84 rfl (lv_at hl 2 rfl) ?_
  refine va_get (D := D) (ci := 6) (v := .ref f10) hx hb ht inMod hown hK hP 0 rfl rfl 9 (by decide) (ht _ kf_Mod_37) (fun _ h9 => h9) rfl dMod_reset_85 ?_
  refine lv_iload_n hx hb dMod_reset_88 rfl (lv_at hl 0 rfl) ?_
  refine lv_fconst0 hx hb dMod_reset_89 ?_
  refine k_fast (j := 1) (f1 := vf_upd (vf_upd wp 0 FP.fconst0) 1 FP.fconst0) hx hb hK hP hD hS 3 0 rfl rfl (by unfold vp_in; decide) rfl rfl dMod_reset_90 (fun H locs hP hD hS => ?_)
  have hP : va_P D vwCl [(h0, .inr (6, [.ref f1, .ref f2, .ref f3, .ref f4, .ref f5, .ref f6, .ref f7, .ref f8, .ref f9, .ref f10, .ref f11, .ref n1, .ref n2, .ref n3, .ref n4, .int sm, .int 0, .int 0, .int 0, .int 0, .int 0, .int 0, .int 0, .int lin, .int 0, .int 0])), (f6, .inl (cF, 4, .inr (.inr (.inl (vf_upd (vf_upd (vf_upd (vf_upd mm 0 FP.fconst0) 1 FP.fconst0) 2 FP.fconst0) 3 FP.fconst0))))), (f7, .inl (cF, 4, .inr (.inr (.inl (vf_upd (vf_upd (vf_upd (vf_upd mm2 0 FP.fconst0) 1 FP.fconst0) 2 FP.fconst0) 3 FP.fconst0))))), (f10, .inl (cF, 5, .inr (.inr (.inl (vf_upd (vf_upd wp 0 FP.fconst0) 1 FP.fconst0))))), (n4, .inl (cI, 7, .inl td))] H := hP
  have hD : va_D A [(h0, .inr (6, [.ref f1, .ref f2, .ref f3, .ref f4, .ref f5, .ref f6, .ref f7, .ref f8, .ref f9, .ref f10, .ref f11, .ref n1, .ref n2, .ref n3, .ref n4, .int sm, .int 0, .int 0, .int 0, .int 0, .int 0, .int 0, .int 0, .int lin, .int 0, .int 0])), (f6, .inl (cF, 4, .inr (.inr (.inl (vf_upd (vf_upd (vf_upd (vf_upd mm 0 FP.fconst0) 1 FP.fconst0) 2 FP.fconst0) 3 FP.fconst0))))), (f7, .inl (cF, 4, .inr (.inr (.inl (vf_upd (vf_upd (vf_upd (vf_upd mm2 0 FP.fconst0) 1 FP.fconst0) 2 FP.fconst0) 3 FP.fconst0))))), (f10, .inl (cF, 5, .inr (.inr (.inl (vf_upd (vf_upd wp 0 FP.fconst0) 1 FP.fconst0))))), (n4, .inl (cI, 7, .inl td))] := hD
  refine lv_iinc (v := 2) (lv' := [(2, .int 2), (1, .int ln), (0, .ref h0)]) hx hb dMod_reset_91 hl (k := 0) rfl (by decide) (by decide) rfl (fun ls hl => ?_)
  refine lv_goto (tgt := 79) hx hb dMod_reset_94 (by decide) ?_
  refine lv_iload_n hx hb dMod_reset_79 rfl (lv_at hl 0 rfl) ?_
  refine lv_iconst (v := 5) hx hb dMod_reset_80 (by decide) ?_
  refine lv_icmp_ge (tgt := 97) hx hb dMod_reset_81 (by decide) (fun c9 => absurd c9 (by decide)) (fun _ => ?_)
  refine lv_aload_n hx hb dMod_reset_84 rfl (lv_at hl 2 rfl) ?_
  refine va_get (D := D) (ci := 6) (v := .ref f10) hx hb ht inMod hown hK hP 0 rfl rfl 9 (by decide) (ht _ kf_Mod_37) (fun _ h9 => h9) rfl dMod_reset_85 ?_
  refine lv_iload_n hx hb dMod_reset_88 rfl (lv_at hl 0 rfl) ?_
  refine lv_fconst0 hx hb dMod_reset_89 ?_
  refine k_fast (j := 2) (f1 := vf_upd (vf_upd (vf_upd wp 0 FP.fconst0) 1 FP.fconst0) 2 FP.fconst0) hx hb hK hP hD hS 3 0 rfl rfl (by unfold vp_in; decide) rfl rfl dMod_reset_90 (fun H locs hP hD hS => ?_)
  have hP : va_P D vwCl [(h0, .inr (6, [.ref f1, .ref f2, .ref f3, .ref f4, .ref f5, .ref f6, .ref f7, .ref f8, .ref f9, .ref f10, .ref f11, .ref n1, .ref n2, .ref n3, .ref n4, .int sm, .int 0, .int 0, .int 0, .int 0, .int 0, .int 0, .int 0, .int lin, .int 0, .int 0])), (f6, .inl (cF, 4, .inr (.inr (.inl (vf_upd (vf_upd (vf_upd (vf_upd mm 0 FP.fconst0) 1 FP.fconst0) 2 FP.fconst0) 3 FP.fconst0))))), (f7, .inl (cF, 4, .inr (.inr (.inl (vf_upd (vf_upd (vf_upd (vf_upd mm2 0 FP.fconst0) 1 FP.fconst0) 2 FP.fconst0) 3 FP.fconst0))))), (f10, .inl (cF, 5, .inr (.inr (.inl (vf_upd (vf_upd (vf_upd wp 0 FP.fconst0) 1 FP.fconst0) 2 FP.fconst0))))), (n4, .inl (cI, 7, .inl td))] H := hP
  have hD : va_D A [(h0, .inr (6, [.ref f1, .ref f2, .ref f3, .ref f4, .ref f5, .ref f6, .ref f7, .ref f8, .ref f9, .ref f10, .ref f11, .ref n1, .ref n2, .ref n3, .ref n4, .int sm, .int 0, .int 0, .int 0, .int 0, .int 0, .int 0, .int 0, .int lin, .int 0, .int 0])), (f6, .inl (cF, 4, .inr (.inr (.inl (vf_upd (vf_upd (vf_upd (vf_upd mm 0 FP.fconst0) 1 FP.fconst0) 2 FP.fconst0) 3 FP.fconst0))))), (f7, .inl (cF, 4, .inr (.inr (.inl (vf_upd (vf_upd (vf_upd (vf_upd mm2 0 FP.fconst0) 1 FP.fconst0) 2 FP.fconst0) 3 FP.fconst0))))), (f10, .inl (cF, 5, .inr (.inr (.inl (vf_upd (vf_upd (vf_upd wp 0 FP.fconst0) 1 FP.fconst0) 2 FP.fconst0))))), (n4, .inl (cI, 7, .inl td))] := hD
  refine lv_iinc (v := 3) (lv' := [(2, .int 3), (1, .int ln), (0, .ref h0)]) hx hb dMod_reset_91 hl (k := 0) rfl (by decide) (by decide) rfl (fun ls hl => ?_)
  refine lv_goto (tgt := 79) hx hb dMod_reset_94 (by decide) ?_
  refine lv_iload_n hx hb dMod_reset_79 rfl (lv_at hl 0 rfl) ?_
  refine lv_iconst (v := 5) hx hb dMod_reset_80 (by decide) ?_
  refine lv_icmp_ge (tgt := 97) hx hb dMod_reset_81 (by decide) (fun c9 => absurd c9 (by decide)) (fun _ => ?_)
  refine lv_aload_n hx hb dMod_reset_84 rfl (lv_at hl 2 rfl) ?_
  refine va_get (D := D) (ci := 6) (v := .ref f10) hx hb ht inMod hown hK hP 0 rfl rfl 9 (by decide) (ht _ kf_Mod_37) (fun _ h9 => h9) rfl dMod_reset_85 ?_
  refine lv_iload_n hx hb dMod_reset_88 rfl (lv_at hl 0 rfl) ?_
  refine lv_fconst0 hx hb dMod_reset_89 ?_
  refine k_fast (j := 3) (f1 := vf_upd (vf_upd (vf_upd (vf_upd wp 0 FP.fconst0) 1 FP.fconst0) 2 FP.fconst0) 3 FP.fconst0) hx hb hK hP hD hS 3 0 rfl rfl (by unfold vp_in; decide) rfl rfl dMod_reset_90 (fun H locs hP hD hS => ?_)
  have hP : va_P D vwCl [(h0, .inr (6, [.ref f1, .ref f2, .ref f3, .ref f4, .ref f5, .ref f6, .ref f7, .ref f8, .ref f9, .ref f10, .ref f11, .ref n1, .ref n2, .ref n3, .ref n4, .int sm, .int 0, .int 0, .int 0, .int 0, .int 0, .int 0, .int 0, .int lin, .int 0, .int 0])), (f6, .inl (cF, 4, .inr (.inr (.inl (vf_upd (vf_upd (vf_upd (vf_upd mm 0 FP.fconst0) 1 FP.fconst0) 2 FP.fconst0) 3 FP.fconst0))))), (f7, .inl (cF, 4, .inr (.inr (.inl (vf_upd (vf_upd (vf_upd (vf_upd mm2 0 FP.fconst0) 1 FP.fconst0) 2 FP.fconst0) 3 FP.fconst0))))), (f10, .inl (cF, 5, .inr (.inr (.inl (vf_upd (vf_upd (vf_upd (vf_upd wp 0 FP.fconst0) 1 FP.fconst0) 2 FP.fconst0) 3 FP.fconst0))))), (n4, .inl (cI, 7, .inl td))] H := hP
  have hD : va_D A [(h0, .inr (6, [.ref f1, .ref f2, .ref f3, .ref f4, .ref f5, .ref f6, .ref f7, .ref f8, .ref f9, .ref f10, .ref f11, .ref n1, .ref n2, .ref n3, .ref n4, .int sm, .int 0, .int 0, .int 0, .int 0, .int 0, .int 0, .int 0, .int lin, .int 0, .int 0])), (f6, .inl (cF, 4, .inr (.inr (.inl (vf_upd (vf_upd (vf_upd (vf_upd mm 0 FP.fconst0) 1 FP.fconst0) 2 FP.fconst0) 3 FP.fconst0))))), (f7, .inl (cF, 4, .inr (.inr (.inl (vf_upd (vf_upd (vf_upd (vf_upd mm2 0 FP.fconst0) 1 FP.fconst0) 2 FP.fconst0) 3 FP.fconst0))))), (f10, .inl (cF, 5, .inr (.inr (.inl (vf_upd (vf_upd (vf_upd (vf_upd wp 0 FP.fconst0) 1 FP.fconst0) 2 FP.fconst0) 3 FP.fconst0))))), (n4, .inl (cI, 7, .inl td))] := hD
  refine lv_iinc (v := 4) (lv' := [(2, .int 4), (1, .int ln), (0, .ref h0)]) hx hb dMod_reset_91 hl (k := 0) rfl (by decide) (by decide) rfl (fun ls hl => ?_)
  refine lv_goto (tgt := 79) hx hb dMod_reset_94 (by decide) ?_
  refine lv_iload_n hx hb dMod_reset_79 rfl (lv_at hl 0 rfl) ?_
  refine lv_iconst (v := 5) hx hb dMod_reset_80 (by decide) ?_
  refine lv_icmp_ge (tgt := 97) hx hb dMod_reset_81 (by decide) (fun c9 => absurd c9 (by decide)) (fun _ => ?_)
  refine lv_aload_n hx hb dMod_reset_84 rfl (lv_at hl 2 rfl) ?_
  refine va_get (D := D) (ci := 6) (v := .ref f10) hx hb ht inMod hown hK hP 0 rfl rfl 9 (by decide) (ht _ kf_Mod_37) (fun _ h9 => h9) rfl dMod_reset_85 ?_
  refine lv_iload_n hx hb dMod_reset_88 rfl (lv_at hl 0 rfl) ?_
  refine lv_fconst0 hx hb dMod_reset_89 ?_
  refine k_fast (j := 4) (f1 := vf_upd (vf_upd (vf_upd (vf_upd (vf_upd wp 0 FP.fconst0) 1 FP.fconst0) 2 FP.fconst0) 3 FP.fconst0) 4 FP.fconst0) hx hb hK hP hD hS 3 0 rfl rfl (by unfold vp_in; decide) rfl rfl dMod_reset_90 (fun H locs hP hD hS => ?_)
  have hP : va_P D vwCl [(h0, .inr (6, [.ref f1, .ref f2, .ref f3, .ref f4, .ref f5, .ref f6, .ref f7, .ref f8, .ref f9, .ref f10, .ref f11, .ref n1, .ref n2, .ref n3, .ref n4, .int sm, .int 0, .int 0, .int 0, .int 0, .int 0, .int 0, .int 0, .int lin, .int 0, .int 0])), (f6, .inl (cF, 4, .inr (.inr (.inl (vf_upd (vf_upd (vf_upd (vf_upd mm 0 FP.fconst0) 1 FP.fconst0) 2 FP.fconst0) 3 FP.fconst0))))), (f7, .inl (cF, 4, .inr (.inr (.inl (vf_upd (vf_upd (vf_upd (vf_upd mm2 0 FP.fconst0) 1 FP.fconst0) 2 FP.fconst0) 3 FP.fconst0))))), (f10, .inl (cF, 5, .inr (.inr (.inl (vf_upd (vf_upd (vf_upd (vf_upd (vf_upd wp 0 FP.fconst0) 1 FP.fconst0) 2 FP.fconst0) 3 FP.fconst0) 4 FP.fconst0))))), (n4, .inl (cI, 7, .inl td))] H := hP
  have hD : va_D A [(h0, .inr (6, [.ref f1, .ref f2, .ref f3, .ref f4, .ref f5, .ref f6, .ref f7, .ref f8, .ref f9, .ref f10, .ref f11, .ref n1, .ref n2, .ref n3, .ref n4, .int sm, .int 0, .int 0, .int 0, .int 0, .int 0, .int 0, .int 0, .int lin, .int 0, .int 0])), (f6, .inl (cF, 4, .inr (.inr (.inl (vf_upd (vf_upd (vf_upd (vf_upd mm 0 FP.fconst0) 1 FP.fconst0) 2 FP.fconst0) 3 FP.fconst0))))), (f7, .inl (cF, 4, .inr (.inr (.inl (vf_upd (vf_upd (vf_upd (vf_upd mm2 0 FP.fconst0) 1 FP.fconst0) 2 FP.fconst0) 3 FP.fconst0))))), (f10, .inl (cF, 5, .inr (.inr (.inl (vf_upd (vf_upd (vf_upd (vf_upd (vf_upd wp 0 FP.fconst0) 1 FP.fconst0) 2 FP.fconst0) 3 FP.fconst0) 4 FP.fconst0))))), (n4, .inl (cI, 7, .inl td))] := hD
  refine lv_iinc (v := 5) (lv' := [(2, .int 5), (1, .int ln), (0, .ref h0)]) hx hb dMod_reset_91 hl (k := 0) rfl (by decide) (by decide) rfl (fun ls hl => ?_)
  refine lv_goto (tgt := 79) hx hb dMod_reset_94 (by decide) ?_
  refine lv_iload_n hx hb dMod_reset_79 rfl (lv_at hl 0 rfl) ?_
  refine lv_iconst (v := 5) hx hb dMod_reset_80 (by decide) ?_
  refine lv_icmp_ge (tgt := 97) hx hb dMod_reset_81 (by decide) (fun _ => ?_) (fun c9 => absurd (by decide) c9)
  refine lv_iconst (v := 0) hx hb dMod_reset_97 (by decide) ?_
  refine lv_istore_n (lv' := [(2, .int 0), (1, .int ln), (0, .ref h0)]) hx hb dMod_reset_98 rfl hl (by decide) rfl (fun ls hl => ?_)
  refine lv_iload_n hx hb dMod_reset_99 rfl (lv_at hl 0 rfl) ?_
  refine lv_bipush (v := 7) hx hb dMod_reset_100 (by decide) ?_
  refine lv_icmp_ge (tgt := 118) hx hb dMod_reset_102 (by decide) (fun c9 => absurd c9 (by decide)) (fun _ => ?_)
  refine lv_aload_n hx hb dMod_reset_105 rfl (lv_at hl 2 rfl) ?_
  refine va_get (D := D) (ci := 6) (v := .ref n4) hx hb ht inMod hown hK hP 0 rfl rfl 14 (by decide) (ht _ kf_Mod_53) (fun _ h9 => h9) rfl dMod_reset_106 ?_
  refine lv_iload_n hx hb dMod_reset_109 rfl (lv_at hl 0 rfl) ?_
  refine lv_iconst (v := 0) hx hb dMod_reset_110 (by decide) ?_
  refine k_iast (j := 0) (f1 := upd td 0 0) hx hb hK hP hD hS 4 1 rfl rfl (by unfold vp_in; decide) rfl rfl dMod_reset_111 (fun H locs hP hD hS => ?_)
  have hP : va_P D vwCl [(h0, .inr (6, [.ref f1, .ref f2, .ref f3, .ref f4, .ref f5, .ref f6, .ref f7, .ref f8, .ref f9, .ref f10, .ref f11, .ref n1, .ref n2, .ref n3, .ref n4, .int sm, .int 0, .int 0, .int 0, .int 0, .int 0, .int 0, .int 0, .int lin, .int 0, .int 0])), (f6, .inl (cF, 4, .inr (.inr (.inl (vf_upd (vf_upd (vf_upd (vf_upd mm 0 FP.fconst0) 1 FP.fconst0) 2 FP.fconst0) 3 FP.fconst0))))), (f7, .inl (cF, 4, .inr (.inr (.inl (vf_upd (vf_upd (vf_upd (vf_upd mm2 0 FP.fconst0) 1 FP.fconst0) 2 FP.fconst0) 3 FP.fconst0))))), (f10, .inl (cF, 5, .inr (.inr (.inl (vf_upd (vf_upd (vf_upd (vf_upd (vf_upd wp 0 FP.fconst0) 1 FP.fconst0) 2 FP.fconst0) 3 FP.fconst0) 4 FP.fconst0))))), (n4, .inl (cI, 7, .inl (upd td 0 0)))] H := hP
  have hD : va_D A [(h0, .inr (6, [.ref f1, .ref f2, .ref f3, .ref f4, .ref f5, .ref f6, .ref f7, .ref f8, .ref f9, .ref f10, .ref f11, .ref n1, .ref n2, .ref n3, .ref n4, .int sm, .int 0, .int 0, .int 0, .int 0, .int 0, .int 0, .int 0, .int lin, .int 0, .int 0])), (f6, .inl (cF, 4, .inr (.inr (.inl (vf_upd (vf_upd (vf_upd (vf_upd mm 0 FP.fconst0) 1 FP.fconst0) 2 FP.fconst0) 3 FP.fconst0))))), (f7, .inl (cF, 4, .inr (.inr (.inl (vf_upd (vf_upd (vf_upd (vf_upd mm2 0 FP.fconst0) 1 FP.fconst0) 2 FP.fconst0) 3 FP.fconst0))))), (f10, .inl (cF, 5, .inr (.inr (.inl (vf_upd (vf_upd (vf_upd (vf_upd (vf_upd wp 0 FP.fconst0) 1 FP.fconst0) 2 FP.fconst0) 3 FP.fconst0) 4 FP.fconst0))))), (n4, .inl (cI, 7, .inl (upd td 0 0)))] := hD
  refine lv_iinc (v := 1) (lv' := [(2, .int 1), (1, .int ln), (0, .ref h0)]) hx hb dMod_reset_112 hl (k := 0) rfl (by decide) (by decide) rfl (fun ls hl => ?_)
  refine lv_goto (tgt := 99) hx hb dMod_reset_115 (by decide) ?_
  refine lv_iload_n hx hb dMod_reset_99 rfl (lv_at hl 0 rfl) ?_
  refine lv_bipush (v := 7) hx hb dMod_reset_100 (by decide) ?_
  refine lv_icmp_ge (tgt := 118) hx hb dMod_reset_102 (by decide) (fun c9 => absurd c9 (by decide)) (fun _ => ?_)
  refine lv_aload_n hx hb dMod_reset_105 rfl (lv_at hl 2 rfl) ?_
  refine va_get (D := D) (ci := 6) (v := .ref n4) hx hb ht inMod hown hK hP 0 rfl rfl 14 (by decide) (ht _ kf_Mod_53) (fun _ h9 => h9) rfl dMod_reset_106 ?_
  refine lv_iload_n hx hb dMod_reset_109 rfl (lv_at hl 0 rfl) ?_
  refine lv_iconst (v := 0) hx hb dMod_reset_110 (by decide) ?_
  refine k_iast (j := 1) (f1 := upd (upd td 0 0) 1 0) hx hb hK hP hD hS 4 1 rfl rfl (by unfold vp_in; decide) rfl rfl dMod_reset_111 (fun H locs hP hD hS => ?_)
  have hP : va_P D vwCl [(h0, .inr (6, [.ref f1, .ref f2, .ref f3, .ref f4, .ref f5, .ref f6, .ref f7, .ref f8, .ref f9, .ref f10, .ref f11, .ref n1, .ref n2, .ref n3, .ref n4, .int sm, .int 0, .int 0, .int 0, .int 0, .int 0, .int 0, .int 0, .int lin, .int 0, .int 0])), (f6, .inl (cF, 4, .inr (.inr (.inl (vf_upd (vf_upd (vf_upd (vf_upd mm 0 FP.fconst0) 1 FP.fconst0) 2 FP.fconst0) 3 FP.fconst0))))), (f7, .inl (cF, 4, .inr (.inr (.inl (vf_upd (vf_upd (vf_upd (vf_upd mm2 0 FP.fconst0) 1 FP.fconst0) 2 FP.fconst0) 3 FP.fconst0))))), (f10, .inl (cF, 5, .inr (.inr (.inl (vf_upd (vf_upd (vf_upd (vf_upd (vf_upd wp 0 FP.fconst0) 1 FP.fconst0) 2 FP.fconst0) 3 FP.fconst0) 4 FP.fconst0))))), (n4, .inl (cI, 7, .inl (upd (upd td 0 0) 1 0)))] H := hP
  have hD : va_D A [(h0, .inr (6, [.ref f1, .ref f2, .ref f3, .ref f4, .ref f5, .ref f6, .ref f7, .ref f8, .ref f9, .ref f10, .ref f11, .ref n1, .ref n2, .ref n3, .ref n4, .int sm, .int 0, .int 0, .int 0, .int 0, .int 0, .int 0, .int 0, .int lin, .int 0, .int 0])), (f6, .inl (cF, 4, .inr (.inr (.inl (vf_upd (vf_upd (vf_upd (vf_upd mm 0 FP.fconst0) 1 FP.fconst0) 2 FP.fconst0) 3 FP.fconst0))))), (f7, .inl (cF, 4, .inr (.inr (.inl (vf_upd (vf_upd (vf_upd (vf_upd mm2 0 FP.fconst0) 1 FP.fconst0) 2 FP.fconst0) 3 FP.fconst0))))), (f10, .inl (cF, 5, .inr (.inr (.inl (vf_upd (vf_upd (vf_upd (vf_upd (vf_upd wp 0 FP.fconst0) 1 FP.fconst0) 2 FP.fconst0) 3 FP.fconst0) 4 FP.fconst0))))), (n4, .inl (cI, 7, .inl (upd (upd td 0 0) 1 0)))] := hD
  refine lv_iinc (v := 2) (lv' := [(2, .int 2), (1, .int ln), (0, .ref h0)]) hx hb dMod_reset_112 hl (k := 0) rfl (by decide) (by decide) rfl (fun ls hl => ?_)
  refine lv_goto (tgt := 99) hx hb dMod_reset_115 (by decide) ?_
  refine lv_iload_n hx hb dMod_reset_99 rfl (lv_at hl 0 rfl) ?_
  refine lv_bipush (v := 7) hx hb dMod_reset_100 (by decide) ?_
  refine lv_icmp_ge (tgt := 118) hx hb dMod_reset_102 (by decide) (fun c9 => absurd c9 (by decide)) (fun _ => ?_)
  refine lv_aload_n hx hb dMod_reset_105 rfl (lv_at hl 2 rfl) ?_
  refine va_get (D := D) (ci := 6) (v := .ref n4) hx hb ht inMod hown hK hP 0 rfl rfl 14 (by decide) (ht _ kf_Mod_53) (fun _ h9 => h9) rfl dMod_reset_106 ?_
  refine lv_iload_n hx hb dMod_reset_109 rfl (lv_at hl 0 rfl) ?_
  refine lv_iconst (v := 0) hx hb dMod_reset_110 (by decide) ?_
  refine k_iast (j := 2) (f1 := upd (upd (upd td 0 0) 1 0) 2 0) hx hb hK hP hD hS 4 1 rfl rfl (by unfold vp_in; decide) rfl rfl dMod_reset_111 (fun H locs hP hD hS => ?_)
  have hP : va_P D vwCl [(h0, .inr (6, [.ref f1, .ref f2, .ref f3, .ref f4, .ref f5, .ref f6, .ref f7, .ref f8, .ref f9, .ref f10, .ref f11, .ref n1, .ref n2, .ref n3, .ref n4, .int sm, .int 0, .int 0, .int 0, .int 0, .int 0, .int 0, .int 0, .int lin, .int 0, .int 0])), (f6, .inl (cF, 4, .inr (.inr (.inl (vf_upd (vf_upd (vf_upd (vf_upd mm 0 FP.fconst0) 1 FP.fconst0) 2 FP.fconst0) 3 FP.fconst0))))), (f7, .inl (cF, 4, .inr (.inr (.inl (vf_upd (vf_upd (vf_upd (vf_upd mm2 0 FP.fconst0) 1 FP.fconst0) 2 FP.fconst0) 3 FP.fconst0))))), (f10, .inl (cF, 5, .inr (.inr (.inl (vf_upd (vf_upd (vf_upd (vf_upd (vf_upd wp 0 FP.fconst0) 1 FP.fconst0) 2 FP.fconst0) 3 FP.fconst0) 4 FP.fconst0))))), (n4, .inl (cI, 7, .inl (upd (upd (upd td 0 0) 1 0) 2 0)))] H := hP
  have hD : va_D A [(h0, .inr (6, [.ref f1, .ref f2, .ref f3, .ref f4, .ref f5, .ref f6, .ref f7, .ref f8, .ref f9, .ref f10, .ref f11, .ref n1, .ref n2, .ref n3, .ref n4, .int sm, .int 0, .int 0, .int 0, .int 0, .int 0, .int 0, .int 0, .int lin, .int 0, .int 0])), (f6, .inl (cF, 4, .inr (.inr (.inl (vf_upd (vf_upd (vf_upd (vf_upd mm 0 FP.fconst0) 1 FP.fconst0) 2 FP.fconst0) 3 FP.fconst0))))), (f7, .inl (cF, 4, .inr (.inr (.inl (vf_upd (vf_upd (vf_upd (vf_upd mm2 0 FP.fconst0) 1 FP.fconst0) 2 FP.fconst0) 3 FP.fconst0))))), (f10, .inl (cF, 5, .inr (.inr (.inl (vf_upd (vf_upd (vf_upd (vf_upd (vf_upd wp 0 FP.fconst0) 1 FP.fconst0) 2 FP.fconst0) 3 FP.fconst0) 4 FP.fconst0))))), (n4, .inl (cI, 7, .inl (upd (upd (upd td 0 0) 1 0) 2 0)))] := hD
  refine lv_iinc (v := 3) (lv' := [(2, .int 3), (1, .int ln), (0, .ref h0)]) hx hb dMod_reset_112 hl (k := 0) rfl (by decide) (by decide) rfl (fun ls hl => ?_)
  refine lv_goto (tgt := 99) hx hb dMod_reset_115 (by decide) ?_
  refine lv_iload_n hx hb dMod_reset_99 rfl (lv_at hl 0 rfl) ?_
  refine lv_bipush (v := 7) hx hb dMod_reset_100 (by decide) ?_
  refine lv_icmp_ge (tgt := 118) hx hb dMod_reset_102 (by decide) (fun c9 => absurd c9 (by decide)) (fun _ => ?_)
  refine lv_aload_n hx hb dMod_reset_105 rfl (lv_at hl 2 rfl) ?_
  refine va_get (D := D) (ci := 6) (v := .ref n4) hx hb ht inMod hown hK hP 0 rfl rfl 14 (by decide) (ht _ kf_Mod_53) (fun _ h9 => h9) rfl dMod_reset_106 ?_
  refine lv_iload_n hx hb dMod_reset_109 rfl (lv_at hl 0 rfl) ?_
  refine lv_iconst (v := 0) hx hb dMod_reset_110 (by decide) ?_
  refine k_iast (j := 3) (f1 := upd (upd (upd (upd td 0 0) 1 0) 2 0) 3 0) hx hb hK hP hD hS 4 1 rfl rfl (by unfold vp_in; decide) rfl rfl dMod_reset_111 (fun H locs hP hD hS => ?_)
  have hP : va_P D vwCl [(h0, .inr (6, [.ref f1, .ref f2, .ref f3, .ref f4, .ref f5, .ref f6, .ref f7, .ref f8, .ref f9, .ref f10, .ref f11, .ref n1, .ref n2, .ref n3, .ref n4, .int sm, .int 0, .int 0, .int 0, .int 0, .int 0, .int 0, .int 0, .int lin, .int 0, .int 0])), (f6, .inl (cF, 4, .inr (.inr (.inl (vf_upd (vf_upd (vf_upd (vf_upd mm 0 FP.fconst0) 1 FP.fconst0) 2 FP.fconst0) 3 FP.fconst0))))), (f7, .inl (cF, 4, .inr (.inr (.inl (vf_upd (vf_upd (vf_upd (vf_upd mm2 0 FP.fconst0) 1 FP.fconst0) 2 FP.fconst0) 3 FP.fconst0))))), (f10, .inl (cF, 5, .inr (.inr (.inl (vf_upd (vf_upd (vf_upd (vf_upd (vf_upd wp 0 FP.fconst0) 1 FP.fconst0) 2 FP.fconst0) 3 FP.fconst0) 4 FP.fconst0))))), (n4, .inl (cI, 7, .inl (upd (upd (upd (upd td 0 0) 1 0) 2 0) 3 0)))] H := hP
  have hD : va_D A [(h0, .inr (6, [.ref f1, .ref f2, .ref f3, .ref f4, .ref f5, .ref f6, .ref f7, .ref f8, .ref f9, .ref f10, .ref f11, .ref n1, .ref n2, .ref n3, .ref n4, .int sm, .int 0, .int 0, .int 0, .int 0, .int 0, .int 0, .int 0, .int lin, .int 0, .int 0])), (f6, .inl (cF, 4, .inr (.inr (.inl (vf_upd (vf_upd (vf_upd (vf_upd mm 0 FP.fconst0) 1 FP.fconst0) 2 FP.fconst0) 3 FP.fconst0))))), (f7, .inl (cF, 4, .inr (.inr (.inl (vf_upd (vf_upd (vf_upd (vf_upd mm2 0 FP.fconst0) 1 FP.fconst0) 2 FP.fconst0) 3 FP.fconst0))))), (f10, .inl (cF, 5, .inr (.inr (.inl (vf_upd (vf_upd (vf_upd (vf_upd (vf_upd wp 0 FP.fconst0) 1 FP.fconst0) 2 FP.fconst0) 3 FP.fconst0) 4 FP.fconst0))))), (n4, .inl (cI, 7, .inl (upd (upd (upd (upd td 0 0) 1 0) 2 0) 3 0)))] := hD
  refine lv_iinc (v := 4) (lv' := [(2, .int 4), (1, .int ln), (0, .ref h0)]) hx hb dMod_reset_112 hl (k := 0) rfl (by decide) (by decide) rfl (fun ls hl => ?_)
  refine lv_goto (tgt := 99) hx hb dMod_reset_115 (by decide) ?_
  refine lv_iload_n hx hb dMod_reset_99 rfl (lv_at hl 0 rfl) ?_
  refine lv_bipush (v := 7) hx hb dMod_reset_100 (by decide) ?_
  refine lv_icmp_ge (tgt := 118) hx hb dMod_reset_102 (by decide) (fun c9 => absurd c9 (by decide)) (fun _ => ?_)
  refine lv_aload_n hx hb dMod_reset_105 rfl (lv_at hl 2 rfl) ?_
  refine va_get (D := D) (ci := 6) (v := .ref n4) hx hb ht inMod hown hK hP 0 rfl rfl 14 (by decide) (ht _ kf_Mod_53) (fun _ h9 => h9) rfl dMod_reset_106 ?_
  refine lv_iload_n hx hb dMod_reset_109 rfl (lv_at hl 0 rfl) ?_
  refine lv_iconst (v := 0) hx hb dMod_reset_110 (by decide) ?_
  refine k_iast (j := 4) (f1 := upd (upd (upd (upd (upd td 0 0) 1 0) 2 0) 3 0) 4 0) hx hb hK hP hD hS 4 1 rfl rfl (by unfold vp_in; decide) rfl rfl dMod_reset_111 (fun H locs hP hD hS => ?_)
  have hP : va_P D vwCl [(h0, .inr (6, [.ref f1, .ref f2, .ref f3, .ref f4, .ref f5, .ref f6, .ref f7, .ref f8, .ref f9, .ref f10, .ref f11, .ref n1, .ref n2, .ref n3, .ref n4, .int sm, .int 0, .int 0, .int 0, .int 0, .int 0, .int 0, .int 0, .int lin, .int 0, .int 0])), (f6, .inl (cF, 4, .inr (.inr (.inl (vf_upd (vf_upd (vf_upd (vf_upd mm 0 FP.fconst0) 1 FP.fconst0) 2 FP.fconst0) 3 FP.fconst0))))), (f7, .inl (cF, 4, .inr (.inr (.inl (vf_upd (vf_upd (vf_upd (vf_upd mm2 0 FP.fconst0) 1 FP.fconst0) 2 FP.fconst0) 3 FP.fconst0))))), (f10, .inl (cF, 5, .inr (.inr (.inl (vf_upd (vf_upd (vf_upd (vf_upd (vf_upd wp 0 FP.fconst0) 1 FP.fconst0) 2 FP.fconst0) 3 FP.fconst0) 4 FP.fconst0))))), (n4, .inl (cI, 7, .inl (upd (upd (upd (upd (upd td 0 0) 1 0) 2 0) 3 0) 4 0)))] H := hP
  have hD : va_D A [(h0, .inr (6, [.ref f1, .ref f2, .ref f3, .ref f4, .ref f5, .ref f6, .ref f7, .ref f8, .ref f9, .ref f10, .ref f11, .ref n1, .ref n2, .ref n3, .ref n4, .int sm, .int 0, .int 0, .int 0, .int 0, .int 0, .int 0, .int 0, .int lin, .int 0, .int 0])), (f6, .inl (cF, 4, .inr (.inr (.inl (vf_upd (vf_upd (vf_upd (vf_upd mm 0 FP.fconst0) 1 FP.fconst0) 2 FP.fconst0) 3 FP.fconst0))))), (f7, .inl (cF, 4, .inr (.inr (.inl (vf_upd (vf_upd (vf_upd (vf_upd mm2 0 FP.fconst0) 1 FP.fconst0) 2 FP.fconst0) 3 FP.fconst0))))), (f10, .inl (cF, 5, .inr (.inr (.inl (vf_upd (vf_upd (vf_upd (vf_upd (vf_upd wp 0 FP.fconst0) 1 FP.fconst0) 2 FP.fconst0) 3 FP.fconst0) 4 FP.fconst0))))), (n4, .inl (cI, 7, .inl (upd (upd (upd (upd (upd td 0 0) 1 0) 2 0) 3 0) 4 0)))] := hD
  refine lv_iinc (v := 5) (lv' := [(2, .int 5), (1, .int ln), (0, .ref h0)]) hx hb dMod_reset_112 hl (k := 0) rfl (by decide) (by decide) rfl (fun ls hl => ?_)
  refine lv_goto (tgt := 99) hx hb dMod_reset_115 (by decide) ?_
  refine lv_iload_n hx hb dMod_reset_99 rfl (lv_at hl 0 rfl) ?_
  refine lv_bipush (v := 7) hx hb dMod_reset_100 (by decide) ?_
  refine lv_icmp_ge (tgt := 118) hx hb dMod_reset_102 (by decide) (fun c9 => absurd c9 (by decide)) (fun _ => ?_)
  refine lv_aload_n hx hb dMod_reset_105 rfl (lv_at hl 2 rfl) ?_
  refine va_get (D := D) (ci := 6) (v := .ref n4) hx hb ht inMod hown hK hP 0 rfl rfl 14 (by decide) (ht _ kf_Mod_53) (fun _ h9 => h9) rfl dMod_reset_106 ?_
  refine lv_iload_n hx hb dMod_reset_109 rfl (lv_at hl 0 rfl) ?_
  refine lv_iconst (v := 0) hx hb dMod_reset_110 (by decide) ?_
  refine k_iast (j := 5) (f1 := upd (upd (upd (upd (upd (upd td 0 0) 1 0) 2 0) 3 0) 4 0) 5 0) hx hb hK hP hD hS 4 1 rfl rfl (by unfold vp_in; decide) rfl rfl dMod_reset_111 (fun H locs hP hD hS => ?_)
  have hP : va_P D vwCl [(h0, .inr (6, [.ref f1, .ref f2, .ref f3, .ref f4, .ref f5, .ref f6, .ref f7, .ref f8, .ref f9, .ref f10, .ref f11, .ref n1, .ref n2, .ref n3, .ref n4, .int sm, .int 0, .int 0, .int 0, .int 0, .int 0, .int 0, .int 0, .int lin, .int 0, .int 0])), (f6, .inl (cF, 4, .inr (.inr (.inl (vf_upd (vf_upd (vf_upd (vf_upd mm 0 FP.fconst0) 1 FP.fconst0) 2 FP.fconst0) 3 FP.fconst0))))), (f7, .inl (cF, 4, .inr (.inr (.inl (vf_upd (vf_upd (vf_upd (vf_upd mm2 0 FP.fconst0) 1 FP.fconst0) 2 FP.fconst0) 3 FP.fconst0))))), (f10, .inl (cF, 5, .inr (.inr (.inl (vf_upd (vf_upd (vf_upd (vf_upd (vf_upd wp 0 FP.fconst0) 1 FP.fconst0) 2 FP.fconst0) 3 FP.fconst0) 4 FP.fconst0))))), (n4, .inl (cI, 7, .inl (upd (upd (upd (upd (upd (upd td 0 0) 1 0) 2 0) 3 0) 4 0) 5 0)))] H := hP
  have hD : va_D A [(h0, .inr (6, [.ref f1, .ref f2, .ref f3, .ref f4, .ref f5, .ref f6, .ref f7, .ref f8, .ref f9, .ref f10, .ref f11, .ref n1, .ref n2, .ref n3, .ref n4, .int sm, .int 0, .int 0, .int 0, .int 0, .int 0, .int 0, .int 0, .int lin, .int 0, .int 0])), (f6, .inl (cF, 4, .inr (.inr (.inl (vf_upd (vf_upd (vf_upd (vf_upd mm 0 FP.fconst0) 1 FP.fconst0) 2 FP.fconst0) 3 FP.fconst0))))), (f7, .inl (cF, 4, .inr (.inr (.inl (vf_upd (vf_upd (vf_upd (vf_upd mm2 0 FP.fconst0) 1 FP.fconst0) 2 FP.fconst0) 3 FP.fconst0))))), (f10, .inl (cF, 5, .inr (.inr (.inl (vf_upd (vf_upd (vf_upd (vf_upd (vf_upd wp 0 FP.fconst0) 1 FP.fconst0) 2 FP.fconst0) 3 FP.fconst0) 4 FP.fconst0))))), (n4, .inl (cI, 7, .inl (upd (upd (upd (upd (upd (upd td 0 0) 1 0) 2 0) 3 0) 4 0) 5 0)))] := hD
  refine lv_iinc (v := 6) (lv' := [(2, .int 6), (1, .int ln), (0, .ref h0)]) hx hb dMod_reset_112 hl (k := 0) rfl (by decide) (by decide) rfl (fun ls hl => ?_)
  refine lv_goto (tgt := 99) hx hb dMod_reset_115 (by decide) ?_
  refine lv_iload_n hx hb dMod_reset_99 rfl (lv_at hl 0 rfl) ?_
  refine lv_bipush (v := 7) hx hb dMod_reset_100 (by decide) ?_
  refine lv_icmp_ge (tgt := 118) hx hb dMod_reset_102 (by decide) (fun c9 => absurd c9 (by decide)) (fun _ => ?_)
  refine lv_aload_n hx hb dMod_reset_105 rfl (lv_at hl 2 rfl) ?_
  refine va_get (D := D) (ci := 6) (v := .ref n4) hx hb ht inMod hown hK hP 0 rfl rfl 14 (by decide) (ht _ kf_Mod_53) (fun _ h9 => h9) rfl dMod_reset_106 ?_
  refine lv_iload_n hx hb dMod_reset_109 rfl (lv_at hl 0 rfl) ?_
  refine lv_iconst (v := 0) hx hb dMod_reset_110 (by decide) ?_
  refine k_iast (j := 6) (f1 := upd (upd (upd (upd (upd (upd (upd td 0 0) 1 0) 2 0) 3 0) 4 0) 5 0) 6 0) hx hb hK hP hD hS 4 1 rfl rfl (by unfold vp_in; decide) rfl rfl dMod_reset_111 (fun H locs hP hD hS => ?_)
  have hP : va_P D vwCl [(h0, .inr (6, [.ref f1, .ref f2, .ref f3, .ref f4, .ref f5, .ref f6, .ref f7, .ref f8, .ref f9, .ref f10, .ref f11, .ref n1, .ref n2, .ref n3, .ref n4, .int sm, .int 0, .int 0, .int 0, .int 0, .int 0, .int 0, .int 0, .int lin, .int 0, .int 0])), (f6, .inl (cF, 4, .inr (.inr (.inl (vf_upd (vf_upd (vf_upd (vf_upd mm 0 FP.fconst0) 1 FP.fconst0) 2 FP.fconst0) 3 FP.fconst0))))), (f7, .inl (cF, 4, .inr (.inr (.inl (vf_upd (vf_upd (vf_upd (vf_upd mm2 0 FP.fconst0) 1 FP.fconst0) 2 FP.fconst0) 3 FP.fconst0))))), (f10, .inl (cF, 5, .inr (.inr (.inl (vf_upd (vf_upd (vf_upd (vf_upd (vf_upd wp 0 FP.fconst0) 1 FP.fconst0) 2 FP.fconst0) 3 FP.fconst0) 4 FP.fconst0))))), (n4, .inl (cI, 7, .inl (upd (upd (upd (upd (upd (upd (upd td 0 0) 1 0) 2 0) 3 0) 4 0) 5 0) 6 0)))] H := hP
  have hD : va_D A [(h0, .inr (6, [.ref f1, .ref f2, .ref f3, .ref f4, .ref f5, .ref f6, .ref f7, .ref f8, .ref f9, .ref f10, .ref f11, .ref n1, .ref n2, .ref n3, .ref n4, .int sm, .int 0, .int 0, .int 0, .int 0, .int 0, .int 0, .int 0, .int lin, .int 0, .int 0])), (f6, .inl (cF, 4, .inr (.inr (.inl (vf_upd (vf_upd (vf_upd (vf_upd mm 0 FP.fconst0) 1 FP.fconst0) 2 FP.fconst0) 3 FP.fconst0))))), (f7, .inl (cF, 4, .inr (.inr (.inl (vf_upd (vf_upd (vf_upd (vf_upd mm2 0 FP.fconst0) 1 FP.fconst0) 2 FP.fconst0) 3 FP.fconst0))))), (f10, .inl (cF, 5, .inr (.inr (.inl (vf_upd (vf_upd (vf_upd (vf_upd (vf_upd wp 0 FP.fconst0) 1 FP.fconst0) 2 FP.fconst0) 3 FP.fconst0) 4 FP.fconst0))))), (n4, .inl (cI, 7, .inl (upd (upd (upd (upd (upd (upd (upd td 0 0) 1 0) 2 0) 3 0) 4 0) 5 0) 6 0)))] := hD
  refine lv_iinc (v := 7) (lv' := [(2, .int 7), (1, .int ln), (0, .ref h0)]) hx hb dMod_reset_112 hl (k := 0) rfl (by decide) (by decide) rfl (fun ls hl => ?_)
  refine lv_goto (tgt := 99) hx hb dMod_reset_115 (by decide) ?_
  refine lv_iload_n hx hb dMod_reset_99 rfl (lv_at hl 0 rfl) ?_
  refine lv_bipush (v := 7) hx hb dMod_reset_100 (by decide) ?_
  refine lv_icmp_ge (tgt := 118) hx hb dMod_reset_102 (by decide) (fun _ => ?_) (fun c9 => absurd (by decide) c9)
  refine lv_iload_n hx hb dMod_reset_118 rfl (lv_at hl 1 rfl) ?_
  have hP := hP.sub (ws' := [(h0, .inr (6, [.ref f1, .ref f2, .ref f3, .ref f4, .ref f5, .ref f6, .ref f7, .ref f8, .ref f9, .ref f10, .ref f11, .ref n1, .ref n2, .ref n3, .ref n4, .int sm, .int 0, .int 0, .int 0, .int 0, .int 0, .int 0, .int 0, .int lin, .int 0, .int 0])), (f6, .inl (cF, 4, .inr (.inr (.inl (vf_upd (vf_upd (vf_upd (vf_upd mm 0 FP.fconst0) 1 FP.fconst0) 2 FP.fconst0) 3 FP.fconst0))))), (f7, .inl (cF, 4, .inr (.inr (.inl (vf_upd (vf_upd (vf_upd (vf_upd mm2 0 FP.fconst0) 1 FP.fconst0) 2 FP.fconst0) 3 FP.fconst0))))), (f10, .inl (cF, 5, .inr (.inr (.inl (vf_upd (vf_upd (vf_upd (vf_upd (vf_upd wp 0 FP.fconst0) 1 FP.fconst0) 2 FP.fconst0) 3 FP.fconst0) 4 FP.fconst0))))), (n4, .inl (cI, 7, .inl (upd (upd (upd (upd (upd (upd (upd td 0 0) 1 0) 2 0) 3 0) 4 0) 5 0) 6 0)))]) [0, 1, 2, 3, 4] rfl
  have hD := hD.sub (ws' := [(h0, .inr (6, [.ref f1, .ref f2, .ref f3, .ref f4, .ref f5, .ref f6, .ref f7, .ref f8, .ref f9, .ref f10, .ref f11, .ref n1, .ref n2, .ref n3, .ref n4, .int sm, .int 0, .int 0, .int 0, .int 0, .int 0, .int 0, .int 0, .int lin, .int 0, .int 0])), (f6, .inl (cF, 4, .inr (.inr (.inl (vf_upd (vf_upd (vf_upd (vf_upd mm 0 FP.fconst0) 1 FP.fconst0) 2 FP.fconst0) 3 FP.fconst0))))), (f7, .inl (cF, 4, .inr (.inr (.inl (vf_upd (vf_upd (vf_upd (vf_upd mm2 0 FP.fconst0) 1 FP.fconst0) 2 FP.fconst0) 3 FP.fconst0))))), (f10, .inl (cF, 5, .inr (.inr (.inl (vf_upd (vf_upd (vf_upd (vf_upd (vf_upd wp 0 FP.fconst0) 1 FP.fconst0) 2 FP.fconst0) 3 FP.fconst0) 4 FP.fconst0))))), (n4, .inl (cI, 7, .inl (upd (upd (upd (upd (upd (upd (upd td 0 0) 1 0) 2 0) 3 0) 4 0) 5 0) 6 0)))]) [0, 1, 2, 3, 4] (by decide) rfl
  exact e_i () hx hb hr hlk hK hP hD hS rfl rfl dMod_reset_119

set_option maxHeartbeats 4000000 in
set_option maxRecDepth 100000 in
theorem c_Mod_apart_R (l : Launch) (D : va_G) (cF cI : ClassId) (sz : Nat) (h0 f1 f2 f3 f4 f5 f6 f7 f8 f9 f10 f11 n1 n2 n3 n4 : Nat) (sm : Int32) (ln : Int32) (tt : Int32) (cm : Int32) (dm : Int32) (si : Int32) (mu : Int32) (th : Int32) (lin : Int32) (oc : Int32) (od : Int32) (yc : Nat → UInt32) (yd : Nat → UInt32) (ho1 : ¬ oc = 0) (ho2 : ¬ od = 0) (hy1 : ∀ j, fk 143 (yc j)) (hy2 : ∀ j, fk 143 (yd j)) : Met l yMod_apart (.code yMod_apart cMod_apart 4 (some .double) :: TB) ({ frames := 0, cells := 0, slots := 0, locals := 0 }) (va_Pc [.ref h0] (cPre D cF cI [(h0, .inr (6, [.ref f1, .ref f2, .ref f3, .ref f4, .ref f5, .ref f6, .ref f7, .ref f8, .ref f9, .ref f10, .ref f11, .ref n1, .ref n2, .ref n3, .ref n4, .int sm, .int ln, .int tt, .int cm, .int dm, .int si, .int mu, .int th, .int lin, .int oc, .int od])), (f4, .inl (cF, 16, .inr (.inr (.inl yc)))), (f5, .inl (cF, 16, .inr (.inr (.inl yd))))] sz)) (va_Qd (fun (r : UInt64) (_ : Unit) => r = FP.f2d (m_ap yc yd 16)) (cB D cF cI (va_A [(h0, .inr (6, [.ref f1, .ref f2, .ref f3, .ref f4, .ref f5, .ref f6, .ref f7, .ref f8, .ref f9, .ref f10, .ref f11, .ref n1, .ref n2, .ref n3, .ref n4, .int sm, .int ln, .int tt, .int cm, .int dm, .int si, .int mu, .int th, .int lin, .int oc, .int od])), (f4, .inl (cF, 16, .inr (.inr (.inl yc)))), (f5, .inl (cF, 16, .inr (.inr (.inl yd))))] sz) (fun _ : Unit => [(h0, .inr (6, [.ref f1, .ref f2, .ref f3, .ref f4, .ref f5, .ref f6, .ref f7, .ref f8, .ref f9, .ref f10, .ref f11, .ref n1, .ref n2, .ref n3, .ref n4, .int sm, .int ln, .int tt, .int cm, .int dm, .int si, .int mu, .int 0, .int lin, .int oc, .int od])), (f4, .inl (cF, 16, .inr (.inr (.inl yc)))), (f5, .inl (cF, 16, .inr (.inr (.inl yd))))])) (va_A [(h0, .inr (6, [.ref f1, .ref f2, .ref f3, .ref f4, .ref f5, .ref f6, .ref f7, .ref f8, .ref f9, .ref f10, .ref f11, .ref n1, .ref n2, .ref n3, .ref n4, .int sm, .int ln, .int tt, .int cm, .int dm, .int si, .int mu, .int th, .int lin, .int oc, .int od])), (f4, .inl (cF, 16, .inr (.inr (.inl yc)))), (f5, .inl (cF, 16, .inr (.inr (.inl yd))))] sz)) 0 0 (va_A [(h0, .inr (6, [.ref f1, .ref f2, .ref f3, .ref f4, .ref f5, .ref f6, .ref f7, .ref f8, .ref f9, .ref f10, .ref f11, .ref n1, .ref n2, .ref n3, .ref n4, .int sm, .int ln, .int tt, .int cm, .int dm, .int si, .int mu, .int th, .int lin, .int oc, .int od])), (f4, .inl (cF, 16, .inr (.inr (.inl yc)))), (f5, .inl (cF, 16, .inr (.inr (.inl yd))))] sz) := by
  refine c_ofW (own := RMod) (by decide) rfl (fun p e s m below meth c hsz hx hb hr hml hown ht hlk hin hP hK hD hmb => ?_)
  subst hsz
  generalize hAe : va_A [(h0, .inr (6, [.ref f1, .ref f2, .ref f3, .ref f4, .ref f5, .ref f6, .ref f7, .ref f8, .ref f9, .ref f10, .ref f11, .ref n1, .ref n2, .ref n3, .ref n4, .int sm, .int ln, .int tt, .int cm, .int dm, .int si, .int mu, .int th, .int lin, .int oc, .int od])), (f4, .inl (cF, 16, .inr (.inr (.inl yc)))), (f5, .inl (cF, 16, .inr (.inr (.inl yd))))] s.heap.size = A at hD ⊢
  have hA : ∀ q : Nat, s.heap.size ≤ q → A q := fun q h => by rw [← hAe]; exact Or.inr h
  have hS : va_S A s.heap s.heap [] := va_S.rf
  have hl := lv_entry ([.ref h0]) (n := 4) (Nat.le_of_ble_eq_true rfl)
  rw [lg_entry_eq]
  generalize (lg_sl ([.ref h0]) ++ List.replicate (4 - (lg_sl ([.ref h0])).length) Slot.unset).toArray = ls at hl ⊢
  have hl : lv_has ls 4 [(0, .ref h0)] := hl
  refine lv_aload_n hx hb dMod_apart_0 rfl (lv_at hl 0 rfl) ?_
  refine lv_aload_n hx hb dMod_apart_1 rfl (lv_at hl 0 rfl) ?_
  refine va_get (D := D) (ci := 6) (v := .int oc) hx hb ht inMod hown hK hP 0 rfl rfl 24 (by decide) (ht _ kf_Mod_128) (fun _ h9 => h9) rfl dMod_apart_2 ?_
  refine lv_if_eq (tgt := 19) hx hb dMod_apart_5 (by decide) (fun c1 => ?_) (fun c1 => ?_)
  · exact absurd c1 ho1
  · refine lv_aload_n hx hb dMod_apart_8 rfl (lv_at hl 0 rfl) ?_
    refine va_get (D := D) (ci := 6) (v := .int od) hx hb ht inMod hown hK hP 0 rfl rfl 25 (by decide) (ht _ kf_Mod_158) (fun _ h9 => h9) rfl dMod_apart_9 ?_
    refine lv_if_eq (tgt := 19) hx hb dMod_apart_12 (by decide) (fun c2 => ?_) (fun c2 => ?_)
    · exact absurd c2 ho2
    · refine lv_iconst (v := 0) hx hb dMod_apart_15 (by decide) ?_
      refine lv_goto (tgt := 20) hx hb dMod_apart_16 (by decide) ?_
      refine va_put (D := D) (ci := 6) (v := .int 0) (ty := .int) hx hb ht inMod tMod tMod_ok nMod hown hK hP hD hS 0 rfl rfl 22 (by decide) (ht _ kf_Mod_56) (fun _ h9 => h9) rfl (by decide +kernel) rfl rfl (Nat.le_of_ble_eq_true rfl) dMod_apart_20 (fun H locs hP hD hS => ?_)
      have hP : va_P D vwCl [(h0, .inr (6, [.ref f1, .ref f2, .ref f3, .ref f4, .ref f5, .ref f6, .ref f7, .ref f8, .ref f9, .ref f10, .ref f11, .ref n1, .ref n2, .ref n3, .ref n4, .int sm, .int ln, .int tt, .int cm, .int dm, .int si, .int mu, .int 0, .int lin, .int oc, .int od])), (f4, .inl (cF, 16, .inr (.inr (.inl yc)))), (f5, .inl (cF, 16, .inr (.inr (.inl yd))))] H := hP
      have hD : va_D A [(h0, .inr (6, [.ref f1, .ref f2, .ref f3, .ref f4, .ref f5, .ref f6, .ref f7, .ref f8, .ref f9, .ref f10, .ref f11, .ref n1, .ref n2, .ref n3, .ref n4, .int sm, .int ln, .int tt, .int cm, .int dm, .int si, .int mu, .int 0, .int lin, .int oc, .int od])), (f4, .inl (cF, 16, .inr (.inr (.inl yc)))), (f5, .inl (cF, 16, .inr (.inr (.inl yd))))] := hD
      refine lv_aload_n hx hb dMod_apart_23 rfl (lv_at hl 0 rfl) ?_
      refine va_get (D := D) (ci := 6) (v := .int 0) hx hb ht inMod hown hK hP 0 rfl rfl 22 (by decide) (ht _ kf_Mod_56) (fun _ h9 => h9) rfl dMod_apart_24 ?_
      refine lv_if_le (tgt := 32) hx hb dMod_apart_27 (by decide) (fun _ => ?_) (fun c9 => absurd (by decide) c9)
      refine lv_fconst0 hx hb dMod_apart_32 ?_
      refine lv_fstore_n (lv' := [(1, .float FP.fconst0), (0, .ref h0)]) hx hb dMod_apart_33 rfl hl (by decide) rfl (fun ls hl => ?_)
      refine lv_iconst (v := 0) hx hb dMod_apart_34 (by decide) ?_
      refine lv_istore_n (lv' := [(2, .int 0), (1, .float FP.fconst0), (0, .ref h0)]) hx hb dMod_apart_35 rfl hl (by decide) rfl (fun ls hl => ?_)
      have loop : ∀ (n i : Nat), i + n = 16 → ∀ (H : Heap) (locs : List Loc), va_P D vwCl [(h0, .inr (6, [.ref f1, .ref f2, .ref f3, .ref f4, .ref f5, .ref f6, .ref f7, .ref f8, .ref f9, .ref f10, .ref f11, .ref n1, .ref n2, .ref n3, .ref n4, .int sm, .int ln, .int tt, .int cm, .int dm, .int si, .int mu, .int 0, .int lin, .int oc, .int od])), (f4, .inl (cF, 16, .inr (.inr (.inl yc)))), (f5, .inl (cF, 16, .inr (.inr (.inl yd))))] H → va_D A [(h0, .inr (6, [.ref f1, .ref f2, .ref f3, .ref f4, .ref f5, .ref f6, .ref f7, .ref f8, .ref f9, .ref f10, .ref f11, .ref n1, .ref n2, .ref n3, .ref n4, .int sm, .int ln, .int tt, .int cm, .int dm, .int si, .int mu, .int 0, .int lin, .int oc, .int od])), (f4, .inl (cF, 16, .inr (.inr (.inl yc)))), (f5, .inl (cF, 16, .inr (.inr (.inl yd))))] → va_S A s.heap H locs → ∀ (ls : Array Slot), lv_has ls 4 [(1, .float (m_ap yc yd i)), (2, .int (nI i)), (0, .ref h0)] → W p l e ({ frames := 0, cells := 0, slots := 0, locals := 0 } : Room) s m ([.ref h0] : List Value).toArray below meth c H locs 0 0 (MQ below (va_Qd (fun (r : UInt64) (_ : Unit) => r = FP.f2d (m_ap yc yd 16)) (cB D cF cI A (fun _ : Unit => [(h0, .inr (6, [.ref f1, .ref f2, .ref f3, .ref f4, .ref f5, .ref f6, .ref f7, .ref f8, .ref f9, .ref f10, .ref f11, .ref n1, .ref n2, .ref n3, .ref n4, .int sm, .int ln, .int tt, .int cm, .int dm, .int si, .int mu, .int 0, .int lin, .int oc, .int od])), (f4, .inl (cF, 16, .inr (.inr (.inl yc)))), (f5, .inl (cF, 16, .inr (.inr (.inl yd))))])) A) ([.ref h0] : List Value).toArray s 0 0 A) (F0 m 36 ls []) := by
        intro n
        induction n with
        | zero =>
          intro i hi H locs hP hD hS ls hl
          obtain rfl : 16 = i := by omega
          refine lv_iload_n hx hb dMod_apart_36 rfl (lv_at hl 1 rfl) ?_
          refine lv_bipush (v := 16) hx hb dMod_apart_37 (by decide) ?_
          refine lv_icmp_ge (tgt := 79) hx hb dMod_apart_39 (by decide) (fun c4 => ?_) (fun c4 => ?_)
          · refine lv_fload_n hx hb dMod_apart_79 rfl (lv_at hl 0 rfl) ?_
            refine lv_f2d hx hb dMod_apart_80 (nd_of (fk_n (ap_k hy1 hy2 16) (by decide))) ?_
            have hP := hP.sub (ws' := [(h0, .inr (6, [.ref f1, .ref f2, .ref f3, .ref f4, .ref f5, .ref f6, .ref f7, .ref f8, .ref f9, .ref f10, .ref f11, .ref n1, .ref n2, .ref n3, .ref n4, .int sm, .int ln, .int tt, .int cm, .int dm, .int si, .int mu, .int 0, .int lin, .int oc, .int od])), (f4, .inl (cF, 16, .inr (.inr (.inl yc)))), (f5, .inl (cF, 16, .inr (.inr (.inl yd))))]) [0, 1, 2] rfl
            have hD := hD.sub (ws' := [(h0, .inr (6, [.ref f1, .ref f2, .ref f3, .ref f4, .ref f5, .ref f6, .ref f7, .ref f8, .ref f9, .ref f10, .ref f11, .ref n1, .ref n2, .ref n3, .ref n4, .int sm, .int ln, .int tt, .int cm, .int dm, .int si, .int mu, .int 0, .int lin, .int oc, .int od])), (f4, .inl (cF, 16, .inr (.inr (.inl yc)))), (f5, .inl (cF, 16, .inr (.inr (.inl yd))))]) [0, 1, 2] (by decide) rfl
            exact e_d () hx hb hr hlk hK hP hD hS rfl rfl dMod_apart_81
          · exact absurd (by decide) c4
        | succ n ih =>
          intro i hi H locs hP hD hS ls hl
          have hi1 : i < 16 := by omega
          refine lv_iload_n hx hb dMod_apart_36 rfl (lv_at hl 1 rfl) ?_
          refine lv_bipush (v := 16) hx hb dMod_apart_37 (by decide) ?_
          refine lv_icmp_ge (tgt := 79) hx hb dMod_apart_39 (by decide) (fun c5 => ?_) (fun c5 => ?_)
          · exact absurd c5 (lt_up (N := 16) (by decide) hi1 (by decide))
          · refine lv_aload_n hx hb dMod_apart_42 rfl (lv_at hl 2 rfl) ?_
            refine va_get (D := D) (ci := 6) (v := .ref f4) hx hb ht inMod hown hK hP 0 rfl rfl 3 (by decide) (ht _ kf_Mod_19) (fun _ h9 => h9) rfl dMod_apart_43 ?_
            refine lv_iload_n hx hb dMod_apart_46 rfl (lv_at hl 1 rfl) ?_
            refine k_fald (j := i) hx hb hK hP 1 0 rfl rfl (vp_in_nI (by omega) (by decide)) (nI_clamp (by omega)) dMod_apart_47 ?_
            refine lv_aload_n hx hb dMod_apart_48 rfl (lv_at hl 2 rfl) ?_
            refine va_get (D := D) (ci := 6) (v := .ref f5) hx hb ht inMod hown hK hP 0 rfl rfl 4 (by decide) (ht _ kf_Mod_22) (fun _ h9 => h9) rfl dMod_apart_49 ?_
            refine lv_iload_n hx hb dMod_apart_52 rfl (lv_at hl 1 rfl) ?_
            refine k_fald (j := i) hx hb hK hP 2 0 rfl rfl (vp_in_nI (by omega) (by decide)) (nI_clamp (by omega)) dMod_apart_53 ?_
            refine lv_fsub hx hb dMod_apart_54 (fk_n (fk_sub (K := 143) (fk_mono (hy1 _) (by decide)) (fk_mono (hy2 _) (by decide)) (by decide)) (by decide)) ?_
            refine lv_fstore_n (lv' := [(3, .float (FP.fsub (yc i) (yd i))), (1, .float (m_ap yc yd i)), (2, .int (nI i)), (0, .ref h0)]) hx hb dMod_apart_55 rfl hl (by decide) rfl (fun ls hl => ?_)
            refine lv_fload_n hx hb dMod_apart_56 rfl (lv_at hl 0 rfl) ?_
            refine lv_fconst0 hx hb dMod_apart_57 ?_
            refine lv_fcmp hx hb dMod_apart_58 ?_
            refine lv_if_ge (tgt := 65) hx hb dMod_apart_59 (by decide) (fun c6 => ?_) (fun c6 => ?_)
            · refine lv_fload_n hx hb dMod_apart_65 rfl (lv_at hl 0 rfl) ?_
              refine lv_fload_n hx hb dMod_apart_66 rfl (lv_at hl 1 rfl) ?_
              refine lv_fcmp hx hb dMod_apart_67 ?_
              refine lv_if_le (tgt := 73) hx hb dMod_apart_68 (by decide) (fun c7 => ?_) (fun c7 => ?_)
              · refine lv_iinc (v := nI (i + 1)) (lv' := [(2, .int (nI (i + 1))), (3, .float (FP.fsub (yc i) (yd i))), (1, .float (m_ap yc yd i)), (0, .ref h0)]) hx hb dMod_apart_73 hl (k := 2) rfl (nI_1 i) (by decide) rfl (fun ls hl => ?_)
                refine lv_goto (tgt := 36) hx hb dMod_apart_76 (by decide) ?_
                have e1 : m_ap yc yd (i + 1) = m_ap yc yd i := by
                  show m_gt (m_ap yc yd i) (f_uns (FP.fsub (yc i) (yd i))) = _
                  rw [show f_uns (FP.fsub (yc i) (yd i)) = FP.fsub (yc i) (yd i) from (by unfold f_uns; rw [if_pos c6])]; unfold m_gt; rw [if_pos c7]
                rw [← e1] at hl
                exact ih (i + 1) (by omega)  _ _ (hP.sub (ws' := [(h0, .inr (6, [.ref f1, .ref f2, .ref f3, .ref f4, .ref f5, .ref f6, .ref f7, .ref f8, .ref f9, .ref f10, .ref f11, .ref n1, .ref n2, .ref n3, .ref n4, .int sm, .int ln, .int tt, .int cm, .int dm, .int si, .int mu, .int 0, .int lin, .int oc, .int od])), (f4, .inl (cF, 16, .inr (.inr (.inl yc)))), (f5, .inl (cF, 16, .inr (.inr (.inl yd))))]) [0, 1, 2] rfl) (hD.sub (ws' := [(h0, .inr (6, [.ref f1, .ref f2, .ref f3, .ref f4, .ref f5, .ref f6, .ref f7, .ref f8, .ref f9, .ref f10, .ref f11, .ref n1, .ref n2, .ref n3, .ref n4, .int sm, .int ln, .int tt, .int cm, .int dm, .int si, .int mu, .int 0, .int lin, .int oc, .int od])), (f4, .inl (cF, 16, .inr (.inr (.inl yc)))), (f5, .inl (cF, 16, .inr (.inr (.inl yd))))]) [0, 1, 2] (by decide) rfl) hS ls (lv_sub hl [2, 0, 3] rfl)
              · refine lv_fload_n hx hb dMod_apart_71 rfl (lv_at hl 0 rfl) ?_
                refine lv_fstore_n (lv' := [(1, .float (FP.fsub (yc i) (yd i))), (3, .float (FP.fsub (yc i) (yd i))), (2, .int (nI i)), (0, .ref h0)]) hx hb dMod_apart_72 rfl hl (by decide) rfl (fun ls hl => ?_)
                refine lv_iinc (v := nI (i + 1)) (lv' := [(2, .int (nI (i + 1))), (1, .float (FP.fsub (yc i) (yd i))), (3, .float (FP.fsub (yc i) (yd i))), (0, .ref h0)]) hx hb dMod_apart_73 hl (k := 2) rfl (nI_1 i) (by decide) rfl (fun ls hl => ?_)
                refine lv_goto (tgt := 36) hx hb dMod_apart_76 (by decide) ?_
                have e1 : m_ap yc yd (i + 1) = FP.fsub (yc i) (yd i) := by
                  show m_gt (m_ap yc yd i) (f_uns (FP.fsub (yc i) (yd i))) = _
                  rw [show f_uns (FP.fsub (yc i) (yd i)) = FP.fsub (yc i) (yd i) from (by unfold f_uns; rw [if_pos c6])]; unfold m_gt; rw [if_neg c7]
                rw [← e1] at hl
                exact ih (i + 1) (by omega)  _ _ (hP.sub (ws' := [(h0, .inr (6, [.ref f1, .ref f2, .ref f3, .ref f4, .ref f5, .ref f6, .ref f7, .ref f8, .ref f9, .ref f10, .ref f11, .ref n1, .ref n2, .ref n3, .ref n4, .int sm, .int ln, .int tt, .int cm, .int dm, .int si, .int mu, .int 0, .int lin, .int oc, .int od])), (f4, .inl (cF, 16, .inr (.inr (.inl yc)))), (f5, .inl (cF, 16, .inr (.inr (.inl yd))))]) [0, 1, 2] rfl) (hD.sub (ws' := [(h0, .inr (6, [.ref f1, .ref f2, .ref f3, .ref f4, .ref f5, .ref f6, .ref f7, .ref f8, .ref f9, .ref f10, .ref f11, .ref n1, .ref n2, .ref n3, .ref n4, .int sm, .int ln, .int tt, .int cm, .int dm, .int si, .int mu, .int 0, .int lin, .int oc, .int od])), (f4, .inl (cF, 16, .inr (.inr (.inl yc)))), (f5, .inl (cF, 16, .inr (.inr (.inl yd))))]) [0, 1, 2] (by decide) rfl) hS ls (lv_sub hl [1, 0, 3] rfl)
            · refine lv_fload_n hx hb dMod_apart_62 rfl (lv_at hl 0 rfl) ?_
              refine lv_fneg hx hb dMod_apart_63 ?_
              refine lv_fstore_n (lv' := [(3, .float (FP.fneg (FP.fsub (yc i) (yd i)))), (1, .float (m_ap yc yd i)), (2, .int (nI i)), (0, .ref h0)]) hx hb dMod_apart_64 rfl hl (by decide) rfl (fun ls hl => ?_)
              refine lv_fload_n hx hb dMod_apart_65 rfl (lv_at hl 0 rfl) ?_
              refine lv_fload_n hx hb dMod_apart_66 rfl (lv_at hl 1 rfl) ?_
              refine lv_fcmp hx hb dMod_apart_67 ?_
              refine lv_if_le (tgt := 73) hx hb dMod_apart_68 (by decide) (fun c8 => ?_) (fun c8 => ?_)
              · refine lv_iinc (v := nI (i + 1)) (lv' := [(2, .int (nI (i + 1))), (3, .float (FP.fneg (FP.fsub (yc i) (yd i)))), (1, .float (m_ap yc yd i)), (0, .ref h0)]) hx hb dMod_apart_73 hl (k := 2) rfl (nI_1 i) (by decide) rfl (fun ls hl => ?_)
                refine lv_goto (tgt := 36) hx hb dMod_apart_76 (by decide) ?_
                have e1 : m_ap yc yd (i + 1) = m_ap yc yd i := by
                  show m_gt (m_ap yc yd i) (f_uns (FP.fsub (yc i) (yd i))) = _
                  rw [show f_uns (FP.fsub (yc i) (yd i)) = FP.fneg (FP.fsub (yc i) (yd i)) from (by unfold f_uns; rw [if_neg c6])]; unfold m_gt; rw [if_pos c8]
                rw [← e1] at hl
                exact ih (i + 1) (by omega)  _ _ (hP.sub (ws' := [(h0, .inr (6, [.ref f1, .ref f2, .ref f3, .ref f4, .ref f5, .ref f6, .ref f7, .ref f8, .ref f9, .ref f10, .ref f11, .ref n1, .ref n2, .ref n3, .ref n4, .int sm, .int ln, .int tt, .int cm, .int dm, .int si, .int mu, .int 0, .int lin, .int oc, .int od])), (f4, .inl (cF, 16, .inr (.inr (.inl yc)))), (f5, .inl (cF, 16, .inr (.inr (.inl yd))))]) [0, 1, 2] rfl) (hD.sub (ws' := [(h0, .inr (6, [.ref f1, .ref f2, .ref f3, .ref f4, .ref f5, .ref f6, .ref f7, .ref f8, .ref f9, .ref f10, .ref f11, .ref n1, .ref n2, .ref n3, .ref n4, .int sm, .int ln, .int tt, .int cm, .int dm, .int si, .int mu, .int 0, .int lin, .int oc, .int od])), (f4, .inl (cF, 16, .inr (.inr (.inl yc)))), (f5, .inl (cF, 16, .inr (.inr (.inl yd))))]) [0, 1, 2] (by decide) rfl) hS ls (lv_sub hl [2, 0, 3] rfl)
              · refine lv_fload_n hx hb dMod_apart_71 rfl (lv_at hl 0 rfl) ?_
                refine lv_fstore_n (lv' := [(1, .float (FP.fneg (FP.fsub (yc i) (yd i)))), (3, .float (FP.fneg (FP.fsub (yc i) (yd i)))), (2, .int (nI i)), (0, .ref h0)]) hx hb dMod_apart_72 rfl hl (by decide) rfl (fun ls hl => ?_)
                refine lv_iinc (v := nI (i + 1)) (lv' := [(2, .int (nI (i + 1))), (1, .float (FP.fneg (FP.fsub (yc i) (yd i)))), (3, .float (FP.fneg (FP.fsub (yc i) (yd i)))), (0, .ref h0)]) hx hb dMod_apart_73 hl (k := 2) rfl (nI_1 i) (by decide) rfl (fun ls hl => ?_)
                refine lv_goto (tgt := 36) hx hb dMod_apart_76 (by decide) ?_
                have e1 : m_ap yc yd (i + 1) = FP.fneg (FP.fsub (yc i) (yd i)) := by
                  show m_gt (m_ap yc yd i) (f_uns (FP.fsub (yc i) (yd i))) = _
                  rw [show f_uns (FP.fsub (yc i) (yd i)) = FP.fneg (FP.fsub (yc i) (yd i)) from (by unfold f_uns; rw [if_neg c6])]; unfold m_gt; rw [if_neg c8]
                rw [← e1] at hl
                exact ih (i + 1) (by omega)  _ _ (hP.sub (ws' := [(h0, .inr (6, [.ref f1, .ref f2, .ref f3, .ref f4, .ref f5, .ref f6, .ref f7, .ref f8, .ref f9, .ref f10, .ref f11, .ref n1, .ref n2, .ref n3, .ref n4, .int sm, .int ln, .int tt, .int cm, .int dm, .int si, .int mu, .int 0, .int lin, .int oc, .int od])), (f4, .inl (cF, 16, .inr (.inr (.inl yc)))), (f5, .inl (cF, 16, .inr (.inr (.inl yd))))]) [0, 1, 2] rfl) (hD.sub (ws' := [(h0, .inr (6, [.ref f1, .ref f2, .ref f3, .ref f4, .ref f5, .ref f6, .ref f7, .ref f8, .ref f9, .ref f10, .ref f11, .ref n1, .ref n2, .ref n3, .ref n4, .int sm, .int ln, .int tt, .int cm, .int dm, .int si, .int mu, .int 0, .int lin, .int oc, .int od])), (f4, .inl (cF, 16, .inr (.inr (.inl yc)))), (f5, .inl (cF, 16, .inr (.inr (.inl yd))))]) [0, 1, 2] (by decide) rfl) hS ls (lv_sub hl [1, 0, 3] rfl)
      exact loop 16 0 (by omega)  _ _ (hP.sub (ws' := [(h0, .inr (6, [.ref f1, .ref f2, .ref f3, .ref f4, .ref f5, .ref f6, .ref f7, .ref f8, .ref f9, .ref f10, .ref f11, .ref n1, .ref n2, .ref n3, .ref n4, .int sm, .int ln, .int tt, .int cm, .int dm, .int si, .int mu, .int 0, .int lin, .int oc, .int od])), (f4, .inl (cF, 16, .inr (.inr (.inl yc)))), (f5, .inl (cF, 16, .inr (.inr (.inl yd))))]) [0, 1, 2] rfl) (hD.sub (ws' := [(h0, .inr (6, [.ref f1, .ref f2, .ref f3, .ref f4, .ref f5, .ref f6, .ref f7, .ref f8, .ref f9, .ref f10, .ref f11, .ref n1, .ref n2, .ref n3, .ref n4, .int sm, .int ln, .int tt, .int cm, .int dm, .int si, .int mu, .int 0, .int lin, .int oc, .int od])), (f4, .inl (cF, 16, .inr (.inr (.inl yc)))), (f5, .inl (cF, 16, .inr (.inr (.inl yd))))]) [0, 1, 2] (by decide) rfl) hS ls (by have hl := lv_sub hl (l' := [(1, .float FP.fconst0), (2, .int 0), (0, .ref h0)]) [1, 0, 2] rfl; try rw [show (0 : Int32) = nI 0 from (by decide)] at hl; exact hl)

set_option maxHeartbeats 4000000 in
set_option maxRecDepth 100000 in
theorem c_Mod_apart_X (l : Launch) (D : va_G) (cF cI : ClassId) (sz : Nat) (h0 f1 f2 f3 f4 f5 f6 f7 f8 f9 f10 f11 n1 n2 n3 n4 : Nat) (sm : Int32) (ln : Int32) (tt : Int32) (cm : Int32) (dm : Int32) (si : Int32) (mu : Int32) (th : Int32) (lin : Int32) (oc : Int32) (od : Int32) (ho : oc = 0) : Met l yMod_apart (.code yMod_apart cMod_apart 4 (some .double) :: TB) ({ frames := 0, cells := 0, slots := 0, locals := 0 }) (va_Pc [.ref h0] (cPre D cF cI [(h0, .inr (6, [.ref f1, .ref f2, .ref f3, .ref f4, .ref f5, .ref f6, .ref f7, .ref f8, .ref f9, .ref f10, .ref f11, .ref n1, .ref n2, .ref n3, .ref n4, .int sm, .int ln, .int tt, .int cm, .int dm, .int si, .int mu, .int th, .int lin, .int oc, .int od]))] sz)) (va_Qd (fun (r : UInt64) (_ : Unit) => r = FP.dconst0) (cB D cF cI (va_A [(h0, .inr (6, [.ref f1, .ref f2, .ref f3, .ref f4, .ref f5, .ref f6, .ref f7, .ref f8, .ref f9, .ref f10, .ref f11, .ref n1, .ref n2, .ref n3, .ref n4, .int sm, .int ln, .int tt, .int cm, .int dm, .int si, .int mu, .int th, .int lin, .int oc, .int od]))] sz) (fun _ : Unit => [(h0, .inr (6, [.ref f1, .ref f2, .ref f3, .ref f4, .ref f5, .ref f6, .ref f7, .ref f8, .ref f9, .ref f10, .ref f11, .ref n1, .ref n2, .ref n3, .ref n4, .int sm, .int ln, .int tt, .int cm, .int dm, .int si, .int mu, .int 1, .int lin, .int oc, .int od]))])) (va_A [(h0, .inr (6, [.ref f1, .ref f2, .ref f3, .ref f4, .ref f5, .ref f6, .ref f7, .ref f8, .ref f9, .ref f10, .ref f11, .ref n1, .ref n2, .ref n3, .ref n4, .int sm, .int ln, .int tt, .int cm, .int dm, .int si, .int mu, .int th, .int lin, .int oc, .int od]))] sz)) 0 0 (va_A [(h0, .inr (6, [.ref f1, .ref f2, .ref f3, .ref f4, .ref f5, .ref f6, .ref f7, .ref f8, .ref f9, .ref f10, .ref f11, .ref n1, .ref n2, .ref n3, .ref n4, .int sm, .int ln, .int tt, .int cm, .int dm, .int si, .int mu, .int th, .int lin, .int oc, .int od]))] sz) := by
  refine c_ofW (own := RMod) (by decide) rfl (fun p e s m below meth c hsz hx hb hr hml hown ht hlk hin hP hK hD hmb => ?_)
  subst hsz
  generalize hAe : va_A [(h0, .inr (6, [.ref f1, .ref f2, .ref f3, .ref f4, .ref f5, .ref f6, .ref f7, .ref f8, .ref f9, .ref f10, .ref f11, .ref n1, .ref n2, .ref n3, .ref n4, .int sm, .int ln, .int tt, .int cm, .int dm, .int si, .int mu, .int th, .int lin, .int oc, .int od]))] s.heap.size = A at hD ⊢
  have hA : ∀ q : Nat, s.heap.size ≤ q → A q := fun q h => by rw [← hAe]; exact Or.inr h
  have hS : va_S A s.heap s.heap [] := va_S.rf
  have hl := lv_entry ([.ref h0]) (n := 4) (Nat.le_of_ble_eq_true rfl)
  rw [lg_entry_eq]
  generalize (lg_sl ([.ref h0]) ++ List.replicate (4 - (lg_sl ([.ref h0])).length) Slot.unset).toArray = ls at hl ⊢
  have hl : lv_has ls 4 [(0, .ref h0)] := hl
  refine lv_aload_n hx hb dMod_apart_0 rfl (lv_at hl 0 rfl) ?_
  refine lv_aload_n hx hb dMod_apart_1 rfl (lv_at hl 0 rfl) ?_
  refine va_get (D := D) (ci := 6) (v := .int oc) hx hb ht inMod hown hK hP 0 rfl rfl 24 (by decide) (ht _ kf_Mod_128) (fun _ h9 => h9) rfl dMod_apart_2 ?_
  refine lv_if_eq (tgt := 19) hx hb dMod_apart_5 (by decide) (fun c1 => ?_) (fun c1 => ?_)
  · refine lv_iconst (v := 1) hx hb dMod_apart_19 (by decide) ?_
    refine va_put (D := D) (ci := 6) (v := .int 1) (ty := .int) hx hb ht inMod tMod tMod_ok nMod hown hK hP hD hS 0 rfl rfl 22 (by decide) (ht _ kf_Mod_56) (fun _ h9 => h9) rfl (by decide +kernel) rfl rfl (Nat.le_of_ble_eq_true rfl) dMod_apart_20 (fun H locs hP hD hS => ?_)
    have hP : va_P D vwCl [(h0, .inr (6, [.ref f1, .ref f2, .ref f3, .ref f4, .ref f5, .ref f6, .ref f7, .ref f8, .ref f9, .ref f10, .ref f11, .ref n1, .ref n2, .ref n3, .ref n4, .int sm, .int ln, .int tt, .int cm, .int dm, .int si, .int mu, .int 1, .int lin, .int oc, .int od]))] H := hP
    have hD : va_D A [(h0, .inr (6, [.ref f1, .ref f2, .ref f3, .ref f4, .ref f5, .ref f6, .ref f7, .ref f8, .ref f9, .ref f10, .ref f11, .ref n1, .ref n2, .ref n3, .ref n4, .int sm, .int ln, .int tt, .int cm, .int dm, .int si, .int mu, .int 1, .int lin, .int oc, .int od]))] := hD
    refine lv_aload_n hx hb dMod_apart_23 rfl (lv_at hl 0 rfl) ?_
    refine va_get (D := D) (ci := 6) (v := .int 1) hx hb ht inMod hown hK hP 0 rfl rfl 22 (by decide) (ht _ kf_Mod_56) (fun _ h9 => h9) rfl dMod_apart_24 ?_
    refine lv_if_le (tgt := 32) hx hb dMod_apart_27 (by decide) (fun c9 => absurd c9 (by decide)) (fun _ => ?_)
    refine lv_dconst0 hx hb dMod_apart_30 ?_
    have hP := hP.sub (ws' := [(h0, .inr (6, [.ref f1, .ref f2, .ref f3, .ref f4, .ref f5, .ref f6, .ref f7, .ref f8, .ref f9, .ref f10, .ref f11, .ref n1, .ref n2, .ref n3, .ref n4, .int sm, .int ln, .int tt, .int cm, .int dm, .int si, .int mu, .int 1, .int lin, .int oc, .int od]))]) [0] rfl
    have hD := hD.sub (ws' := [(h0, .inr (6, [.ref f1, .ref f2, .ref f3, .ref f4, .ref f5, .ref f6, .ref f7, .ref f8, .ref f9, .ref f10, .ref f11, .ref n1, .ref n2, .ref n3, .ref n4, .int sm, .int ln, .int tt, .int cm, .int dm, .int si, .int mu, .int 1, .int lin, .int oc, .int od]))]) [0] (by decide) rfl
    exact e_d () hx hb hr hlk hK hP hD hS rfl rfl dMod_apart_31
  · exact absurd ho c1

set_option maxHeartbeats 4000000 in
set_option maxRecDepth 100000 in
theorem c_Mod_apart_Y (l : Launch) (D : va_G) (cF cI : ClassId) (sz : Nat) (h0 f1 f2 f3 f4 f5 f6 f7 f8 f9 f10 f11 n1 n2 n3 n4 : Nat) (sm : Int32) (ln : Int32) (tt : Int32) (cm : Int32) (dm : Int32) (si : Int32) (mu : Int32) (th : Int32) (lin : Int32) (oc : Int32) (od : Int32) (ho1 : ¬ oc = 0) (ho : od = 0) : Met l yMod_apart (.code yMod_apart cMod_apart 4 (some .double) :: TB) ({ frames := 0, cells := 0, slots := 0, locals := 0 }) (va_Pc [.ref h0] (cPre D cF cI [(h0, .inr (6, [.ref f1, .ref f2, .ref f3, .ref f4, .ref f5, .ref f6, .ref f7, .ref f8, .ref f9, .ref f10, .ref f11, .ref n1, .ref n2, .ref n3, .ref n4, .int sm, .int ln, .int tt, .int cm, .int dm, .int si, .int mu, .int th, .int lin, .int oc, .int od]))] sz)) (va_Qd (fun (r : UInt64) (_ : Unit) => r = FP.dconst0) (cB D cF cI (va_A [(h0, .inr (6, [.ref f1, .ref f2, .ref f3, .ref f4, .ref f5, .ref f6, .ref f7, .ref f8, .ref f9, .ref f10, .ref f11, .ref n1, .ref n2, .ref n3, .ref n4, .int sm, .int ln, .int tt, .int cm, .int dm, .int si, .int mu, .int th, .int lin, .int oc, .int od]))] sz) (fun _ : Unit => [(h0, .inr (6, [.ref f1, .ref f2, .ref f3, .ref f4, .ref f5, .ref f6, .ref f7, .ref f8, .ref f9, .ref f10, .ref f11, .ref n1, .ref n2, .ref n3, .ref n4, .int sm, .int ln, .int tt, .int cm, .int dm, .int si, .int mu, .int 1, .int lin, .int oc, .int od]))])) (va_A [(h0, .inr (6, [.ref f1, .ref f2, .ref f3, .ref f4, .ref f5, .ref f6, .ref f7, .ref f8, .ref f9, .ref f10, .ref f11, .ref n1, .ref n2, .ref n3, .ref n4, .int sm, .int ln, .int tt, .int cm, .int dm, .int si, .int mu, .int th, .int lin, .int oc, .int od]))] sz)) 0 0 (va_A [(h0, .inr (6, [.ref f1, .ref f2, .ref f3, .ref f4, .ref f5, .ref f6, .ref f7, .ref f8, .ref f9, .ref f10, .ref f11, .ref n1, .ref n2, .ref n3, .ref n4, .int sm, .int ln, .int tt, .int cm, .int dm, .int si, .int mu, .int th, .int lin, .int oc, .int od]))] sz) := by
  refine c_ofW (own := RMod) (by decide) rfl (fun p e s m below meth c hsz hx hb hr hml hown ht hlk hin hP hK hD hmb => ?_)
  subst hsz
  generalize hAe : va_A [(h0, .inr (6, [.ref f1, .ref f2, .ref f3, .ref f4, .ref f5, .ref f6, .ref f7, .ref f8, .ref f9, .ref f10, .ref f11, .ref n1, .ref n2, .ref n3, .ref n4, .int sm, .int ln, .int tt, .int cm, .int dm, .int si, .int mu, .int th, .int lin, .int oc, .int od]))] s.heap.size = A at hD ⊢
  have hA : ∀ q : Nat, s.heap.size ≤ q → A q := fun q h => by rw [← hAe]; exact Or.inr h
  have hS : va_S A s.heap s.heap [] := va_S.rf
  have hl := lv_entry ([.ref h0]) (n := 4) (Nat.le_of_ble_eq_true rfl)
  rw [lg_entry_eq]
  generalize (lg_sl ([.ref h0]) ++ List.replicate (4 - (lg_sl ([.ref h0])).length) Slot.unset).toArray = ls at hl ⊢
  have hl : lv_has ls 4 [(0, .ref h0)] := hl
  refine lv_aload_n hx hb dMod_apart_0 rfl (lv_at hl 0 rfl) ?_
  refine lv_aload_n hx hb dMod_apart_1 rfl (lv_at hl 0 rfl) ?_
  refine va_get (D := D) (ci := 6) (v := .int oc) hx hb ht inMod hown hK hP 0 rfl rfl 24 (by decide) (ht _ kf_Mod_128) (fun _ h9 => h9) rfl dMod_apart_2 ?_
  refine lv_if_eq (tgt := 19) hx hb dMod_apart_5 (by decide) (fun c1 => ?_) (fun c1 => ?_)
  · exact absurd c1 ho1
  · refine lv_aload_n hx hb dMod_apart_8 rfl (lv_at hl 0 rfl) ?_
    refine va_get (D := D) (ci := 6) (v := .int od) hx hb ht inMod hown hK hP 0 rfl rfl 25 (by decide) (ht _ kf_Mod_158) (fun _ h9 => h9) rfl dMod_apart_9 ?_
    refine lv_if_eq (tgt := 19) hx hb dMod_apart_12 (by decide) (fun c2 => ?_) (fun c2 => ?_)
    · refine lv_iconst (v := 1) hx hb dMod_apart_19 (by decide) ?_
      refine va_put (D := D) (ci := 6) (v := .int 1) (ty := .int) hx hb ht inMod tMod tMod_ok nMod hown hK hP hD hS 0 rfl rfl 22 (by decide) (ht _ kf_Mod_56) (fun _ h9 => h9) rfl (by decide +kernel) rfl rfl (Nat.le_of_ble_eq_true rfl) dMod_apart_20 (fun H locs hP hD hS => ?_)
      have hP : va_P D vwCl [(h0, .inr (6, [.ref f1, .ref f2, .ref f3, .ref f4, .ref f5, .ref f6, .ref f7, .ref f8, .ref f9, .ref f10, .ref f11, .ref n1, .ref n2, .ref n3, .ref n4, .int sm, .int ln, .int tt, .int cm, .int dm, .int si, .int mu, .int 1, .int lin, .int oc, .int od]))] H := hP
      have hD : va_D A [(h0, .inr (6, [.ref f1, .ref f2, .ref f3, .ref f4, .ref f5, .ref f6, .ref f7, .ref f8, .ref f9, .ref f10, .ref f11, .ref n1, .ref n2, .ref n3, .ref n4, .int sm, .int ln, .int tt, .int cm, .int dm, .int si, .int mu, .int 1, .int lin, .int oc, .int od]))] := hD
      refine lv_aload_n hx hb dMod_apart_23 rfl (lv_at hl 0 rfl) ?_
      refine va_get (D := D) (ci := 6) (v := .int 1) hx hb ht inMod hown hK hP 0 rfl rfl 22 (by decide) (ht _ kf_Mod_56) (fun _ h9 => h9) rfl dMod_apart_24 ?_
      refine lv_if_le (tgt := 32) hx hb dMod_apart_27 (by decide) (fun c9 => absurd c9 (by decide)) (fun _ => ?_)
      refine lv_dconst0 hx hb dMod_apart_30 ?_
      have hP := hP.sub (ws' := [(h0, .inr (6, [.ref f1, .ref f2, .ref f3, .ref f4, .ref f5, .ref f6, .ref f7, .ref f8, .ref f9, .ref f10, .ref f11, .ref n1, .ref n2, .ref n3, .ref n4, .int sm, .int ln, .int tt, .int cm, .int dm, .int si, .int mu, .int 1, .int lin, .int oc, .int od]))]) [0] rfl
      have hD := hD.sub (ws' := [(h0, .inr (6, [.ref f1, .ref f2, .ref f3, .ref f4, .ref f5, .ref f6, .ref f7, .ref f8, .ref f9, .ref f10, .ref f11, .ref n1, .ref n2, .ref n3, .ref n4, .int sm, .int ln, .int tt, .int cm, .int dm, .int si, .int mu, .int 1, .int lin, .int oc, .int od]))]) [0] (by decide) rfl
      exact e_d () hx hb hr hlk hK hP hD hS rfl rfl dMod_apart_31
    · exact absurd ho c2

set_option maxHeartbeats 4000000 in
set_option maxRecDepth 100000 in
theorem c_Mod_count_0 (l : Launch) (D : va_G) (cF cI : ClassId) (sz : Nat) (h0 f1 f2 f3 f4 f5 f6 f7 f8 f9 f10 f11 n1 n2 n3 n4 : Nat) (sm : Int32) (ln : Int32) (tt : Int32) (cm : Int32) (dm : Int32) (si : Int32) (mu : Int32) (th : Int32) (lin : Int32) (oc : Int32) (od : Int32) : Met l yMod_count (.code yMod_count cMod_count 2 (some .int) :: TB) ({ frames := 1, cells := 0, slots := 0, locals := 22 }) (va_Pc [.ref h0, .int 0] (cPre D cF cI [(h0, .inr (6, [.ref f1, .ref f2, .ref f3, .ref f4, .ref f5, .ref f6, .ref f7, .ref f8, .ref f9, .ref f10, .ref f11, .ref n1, .ref n2, .ref n3, .ref n4, .int sm, .int ln, .int tt, .int cm, .int dm, .int si, .int mu, .int th, .int lin, .int oc, .int od]))] sz)) (va_Qi (fun (r : Int32) (_ : Unit) => r = sm) (cB D cF cI (va_A [(h0, .inr (6, [.ref f1, .ref f2, .ref f3, .ref f4, .ref f5, .ref f6, .ref f7, .ref f8, .ref f9, .ref f10, .ref f11, .ref n1, .ref n2, .ref n3, .ref n4, .int sm, .int ln, .int tt, .int cm, .int dm, .int si, .int mu, .int th, .int lin, .int oc, .int od]))] sz) (fun _ : Unit => [(h0, .inr (6, [.ref f1, .ref f2, .ref f3, .ref f4, .ref f5, .ref f6, .ref f7, .ref f8, .ref f9, .ref f10, .ref f11, .ref n1, .ref n2, .ref n3, .ref n4, .int sm, .int ln, .int tt, .int cm, .int dm, .int si, .int mu, .int 0, .int lin, .int oc, .int od]))])) (va_A [(h0, .inr (6, [.ref f1, .ref f2, .ref f3, .ref f4, .ref f5, .ref f6, .ref f7, .ref f8, .ref f9, .ref f10, .ref f11, .ref n1, .ref n2, .ref n3, .ref n4, .int sm, .int ln, .int tt, .int cm, .int dm, .int si, .int mu, .int th, .int lin, .int oc, .int od]))] sz)) 0 0 (va_A [(h0, .inr (6, [.ref f1, .ref f2, .ref f3, .ref f4, .ref f5, .ref f6, .ref f7, .ref f8, .ref f9, .ref f10, .ref f11, .ref n1, .ref n2, .ref n3, .ref n4, .int sm, .int ln, .int tt, .int cm, .int dm, .int si, .int mu, .int th, .int lin, .int oc, .int od]))] sz) := by
  refine c_ofW (own := RMod) (by decide) rfl (fun p e s m below meth c hsz hx hb hr hml hown ht hlk hin hP hK hD hmb => ?_)
  subst hsz
  generalize hAe : va_A [(h0, .inr (6, [.ref f1, .ref f2, .ref f3, .ref f4, .ref f5, .ref f6, .ref f7, .ref f8, .ref f9, .ref f10, .ref f11, .ref n1, .ref n2, .ref n3, .ref n4, .int sm, .int ln, .int tt, .int cm, .int dm, .int si, .int mu, .int th, .int lin, .int oc, .int od]))] s.heap.size = A at hD ⊢
  have hA : ∀ q : Nat, s.heap.size ≤ q → A q := fun q h => by rw [← hAe]; exact Or.inr h
  have hS : va_S A s.heap s.heap [] := va_S.rf
  have hl := lv_entry ([.ref h0, .int 0]) (n := 2) (Nat.le_of_ble_eq_true rfl)
  rw [lg_entry_eq]
  generalize (lg_sl ([.ref h0, .int 0]) ++ List.replicate (2 - (lg_sl ([.ref h0, .int 0])).length) Slot.unset).toArray = ls at hl ⊢
  have hl : lv_has ls 2 [(0, .ref h0), (1, .int 0)] := hl
  refine lv_iload_n hx hb dMod_count_0 rfl (lv_at hl 1 rfl) ?_
  refine lv_iconst (v := 0) hx hb dMod_count_1 (by decide) ?_
  refine lv_bipush (v := 6) hx hb dMod_count_2 (by decide) ?_
  refine q_i (wc := []) (wr := [(h0, .inr (6, [.ref f1, .ref f2, .ref f3, .ref f4, .ref f5, .ref f6, .ref f7, .ref f8, .ref f9, .ref f10, .ref f11, .ref n1, .ref n2, .ref n3, .ref n4, .int sm, .int ln, .int tt, .int cm, .int dm, .int si, .int mu, .int th, .int lin, .int oc, .int od]))]) [] [0] hK hP hD hS hA rfl rfl (by decide) (by decide) (va_runS (As := [.int 0, .int 0, .int 6]) (rest := []) ⟨hx, hb, hml, hown, ht⟩ (c_Mod_in l D cF cI s.heap.size 0 0 6) (va_cwS 3 ht (g_S km_Mod_141 ks_Mod_in kI_Mod kc_Mod_in) rfl rfl rfl (by decide +kernel) ⟨Nat.le_of_ble_eq_true rfl, Nat.le_of_ble_eq_true rfl⟩) (cPre_S hK hmb (hP.sub (ws' := []) [] rfl) (hD.sub (ws' := []) [] (by decide) rfl)) rfl rfl hl.1 rfl (lv_room (Nat.le_of_ble_eq_true rfl)) dMod_count_4 ⟨Nat.le_of_ble_eq_true rfl, Nat.le_of_ble_eq_true rfl⟩) (fun r1 u2 H locs w3 hP hD hS => ?_)
  subst w3
  have hP : va_P D vwCl [(h0, .inr (6, [.ref f1, .ref f2, .ref f3, .ref f4, .ref f5, .ref f6, .ref f7, .ref f8, .ref f9, .ref f10, .ref f11, .ref n1, .ref n2, .ref n3, .ref n4, .int sm, .int ln, .int tt, .int cm, .int dm, .int si, .int mu, .int th, .int lin, .int oc, .int od]))] H := hP
  have hD : va_D A [(h0, .inr (6, [.ref f1, .ref f2, .ref f3, .ref f4, .ref f5, .ref f6, .ref f7, .ref f8, .ref f9, .ref f10, .ref f11, .ref n1, .ref n2, .ref n3, .ref n4, .int sm, .int ln, .int tt, .int cm, .int dm, .int si, .int mu, .int th, .int lin, .int oc, .int od]))] := hD
  refine lv_if_ne (tgt := 16) hx hb dMod_count_7 (by decide) (fun c4 => ?_) (fun c4 => ?_)
  · refine lv_aload_n hx hb dMod_count_16 rfl (lv_at hl 0 rfl) ?_
    refine lv_iconst (v := 0) hx hb dMod_count_17 (by decide) ?_
    refine va_put (D := D) (ci := 6) (v := .int 0) (ty := .int) hx hb ht inMod tMod tMod_ok nMod hown hK hP hD hS 0 rfl rfl 22 (by decide) (ht _ kf_Mod_56) (fun _ h9 => h9) rfl (by decide +kernel) rfl rfl (Nat.le_of_ble_eq_true rfl) dMod_count_18 (fun H locs hP hD hS => ?_)
    have hP : va_P D vwCl [(h0, .inr (6, [.ref f1, .ref f2, .ref f3, .ref f4, .ref f5, .ref f6, .ref f7, .ref f8, .ref f9, .ref f10, .ref f11, .ref n1, .ref n2, .ref n3, .ref n4, .int sm, .int ln, .int tt, .int cm, .int dm, .int si, .int mu, .int 0, .int lin, .int oc, .int od]))] H := hP
    have hD : va_D A [(h0, .inr (6, [.ref f1, .ref f2, .ref f3, .ref f4, .ref f5, .ref f6, .ref f7, .ref f8, .ref f9, .ref f10, .ref f11, .ref n1, .ref n2, .ref n3, .ref n4, .int sm, .int ln, .int tt, .int cm, .int dm, .int si, .int mu, .int 0, .int lin, .int oc, .int od]))] := hD
    refine lv_iload_n hx hb dMod_count_21 rfl (lv_at hl 1 rfl) ?_
    refine lv_if_ne (tgt := 32) hx hb dMod_count_22 (by decide) (fun c9 => absurd (by decide) c9) (fun _ => ?_)
    refine lv_aload_n hx hb dMod_count_25 rfl (lv_at hl 0 rfl) ?_
    refine va_get (D := D) (ci := 6) (v := .int sm) hx hb ht inMod hown hK hP 0 rfl rfl 15 (by decide) (ht _ kf_Mod_68) (fun _ h9 => h9) rfl dMod_count_26 ?_
    refine lv_goto (tgt := 104) hx hb dMod_count_29 (by decide) ?_
    have hP := hP.sub (ws' := [(h0, .inr (6, [.ref f1, .ref f2, .ref f3, .ref f4, .ref f5, .ref f6, .ref f7, .ref f8, .ref f9, .ref f10, .ref f11, .ref n1, .ref n2, .ref n3, .ref n4, .int sm, .int ln, .int tt, .int cm, .int dm, .int si, .int mu, .int 0, .int lin, .int oc, .int od]))]) [0] rfl
    have hD := hD.sub (ws' := [(h0, .inr (6, [.ref f1, .ref f2, .ref f3, .ref f4, .ref f5, .ref f6, .ref f7, .ref f8, .ref f9, .ref f10, .ref f11, .ref n1, .ref n2, .ref n3, .ref n4, .int sm, .int ln, .int tt, .int cm, .int dm, .int si, .int mu, .int 0, .int lin, .int oc, .int od]))]) [0] (by decide) rfl
    exact e_i () hx hb hr hlk hK hP hD hS rfl rfl dMod_count_104
  · exact absurd c4 (by decide)

set_option maxHeartbeats 4000000 in
set_option maxRecDepth 100000 in
theorem c_Mod_count_1 (l : Launch) (D : va_G) (cF cI : ClassId) (sz : Nat) (h0 f1 f2 f3 f4 f5 f6 f7 f8 f9 f10 f11 n1 n2 n3 n4 : Nat) (sm : Int32) (ln : Int32) (tt : Int32) (cm : Int32) (dm : Int32) (si : Int32) (mu : Int32) (th : Int32) (lin : Int32) (oc : Int32) (od : Int32) : Met l yMod_count (.code yMod_count cMod_count 2 (some .int) :: TB) ({ frames := 1, cells := 0, slots := 0, locals := 22 }) (va_Pc [.ref h0, .int 1] (cPre D cF cI [(h0, .inr (6, [.ref f1, .ref f2, .ref f3, .ref f4, .ref f5, .ref f6, .ref f7, .ref f8, .ref f9, .ref f10, .ref f11, .ref n1, .ref n2, .ref n3, .ref n4, .int sm, .int ln, .int tt, .int cm, .int dm, .int si, .int mu, .int th, .int lin, .int oc, .int od]))] sz)) (va_Qi (fun (r : Int32) (_ : Unit) => r = tt) (cB D cF cI (va_A [(h0, .inr (6, [.ref f1, .ref f2, .ref f3, .ref f4, .ref f5, .ref f6, .ref f7, .ref f8, .ref f9, .ref f10, .ref f11, .ref n1, .ref n2, .ref n3, .ref n4, .int sm, .int ln, .int tt, .int cm, .int dm, .int si, .int mu, .int th, .int lin, .int oc, .int od]))] sz) (fun _ : Unit => [(h0, .inr (6, [.ref f1, .ref f2, .ref f3, .ref f4, .ref f5, .ref f6, .ref f7, .ref f8, .ref f9, .ref f10, .ref f11, .ref n1, .ref n2, .ref n3, .ref n4, .int sm, .int ln, .int tt, .int cm, .int dm, .int si, .int mu, .int 0, .int lin, .int oc, .int od]))])) (va_A [(h0, .inr (6, [.ref f1, .ref f2, .ref f3, .ref f4, .ref f5, .ref f6, .ref f7, .ref f8, .ref f9, .ref f10, .ref f11, .ref n1, .ref n2, .ref n3, .ref n4, .int sm, .int ln, .int tt, .int cm, .int dm, .int si, .int mu, .int th, .int lin, .int oc, .int od]))] sz)) 0 0 (va_A [(h0, .inr (6, [.ref f1, .ref f2, .ref f3, .ref f4, .ref f5, .ref f6, .ref f7, .ref f8, .ref f9, .ref f10, .ref f11, .ref n1, .ref n2, .ref n3, .ref n4, .int sm, .int ln, .int tt, .int cm, .int dm, .int si, .int mu, .int th, .int lin, .int oc, .int od]))] sz) := by
  refine c_ofW (own := RMod) (by decide) rfl (fun p e s m below meth c hsz hx hb hr hml hown ht hlk hin hP hK hD hmb => ?_)
  subst hsz
  generalize hAe : va_A [(h0, .inr (6, [.ref f1, .ref f2, .ref f3, .ref f4, .ref f5, .ref f6, .ref f7, .ref f8, .ref f9, .ref f10, .ref f11, .ref n1, .ref n2, .ref n3, .ref n4, .int sm, .int ln, .int tt, .int cm, .int dm, .int si, .int mu, .int th, .int lin, .int oc, .int od]))] s.heap.size = A at hD ⊢
  have hA : ∀ q : Nat, s.heap.size ≤ q → A q := fun q h => by rw [← hAe]; exact Or.inr h
  have hS : va_S A s.heap s.heap [] := va_S.rf
  have hl := lv_entry ([.ref h0, .int 1]) (n := 2) (Nat.le_of_ble_eq_true rfl)
  rw [lg_entry_eq]
  generalize (lg_sl ([.ref h0, .int 1]) ++ List.replicate (2 - (lg_sl ([.ref h0, .int 1])).length) Slot.unset).toArray = ls at hl ⊢
  have hl : lv_has ls 2 [(0, .ref h0), (1, .int 1)] := hl
  refine lv_iload_n hx hb dMod_count_0 rfl (lv_at hl 1 rfl) ?_
  refine lv_iconst (v := 0) hx hb dMod_count_1 (by decide) ?_
  refine lv_bipush (v := 6) hx hb dMod_count_2 (by decide) ?_
  refine q_i (wc := []) (wr := [(h0, .inr (6, [.ref f1, .ref f2, .ref f3, .ref f4, .ref f5, .ref f6, .ref f7, .ref f8, .ref f9, .ref f10, .ref f11, .ref n1, .ref n2, .ref n3, .ref n4, .int sm, .int ln, .int tt, .int cm, .int dm, .int si, .int mu, .int th, .int lin, .int oc, .int od]))]) [] [0] hK hP hD hS hA rfl rfl (by decide) (by decide) (va_runS (As := [.int 1, .int 0, .int 6]) (rest := []) ⟨hx, hb, hml, hown, ht⟩ (c_Mod_in l D cF cI s.heap.size 1 0 6) (va_cwS 3 ht (g_S km_Mod_141 ks_Mod_in kI_Mod kc_Mod_in) rfl rfl rfl (by decide +kernel) ⟨Nat.le_of_ble_eq_true rfl, Nat.le_of_ble_eq_true rfl⟩) (cPre_S hK hmb (hP.sub (ws' := []) [] rfl) (hD.sub (ws' := []) [] (by decide) rfl)) rfl rfl hl.1 rfl (lv_room (Nat.le_of_ble_eq_true rfl)) dMod_count_4 ⟨Nat.le_of_ble_eq_true rfl, Nat.le_of_ble_eq_true rfl⟩) (fun r1 u2 H locs w3 hP hD hS => ?_)
  subst w3
  have hP : va_P D vwCl [(h0, .inr (6, [.ref f1, .ref f2, .ref f3, .ref f4, .ref f5, .ref f6, .ref f7, .ref f8, .ref f9, .ref f10, .ref f11, .ref n1, .ref n2, .ref n3, .ref n4, .int sm, .int ln, .int tt, .int cm, .int dm, .int si, .int mu, .int th, .int lin, .int oc, .int od]))] H := hP
  have hD : va_D A [(h0, .inr (6, [.ref f1, .ref f2, .ref f3, .ref f4, .ref f5, .ref f6, .ref f7, .ref f8, .ref f9, .ref f10, .ref f11, .ref n1, .ref n2, .ref n3, .ref n4, .int sm, .int ln, .int tt, .int cm, .int dm, .int si, .int mu, .int th, .int lin, .int oc, .int od]))] := hD
  refine lv_if_ne (tgt := 16) hx hb dMod_count_7 (by decide) (fun c4 => ?_) (fun c4 => ?_)
  · refine lv_aload_n hx hb dMod_count_16 rfl (lv_at hl 0 rfl) ?_
    refine lv_iconst (v := 0) hx hb dMod_count_17 (by decide) ?_
    refine va_put (D := D) (ci := 6) (v := .int 0) (ty := .int) hx hb ht inMod tMod tMod_ok nMod hown hK hP hD hS 0 rfl rfl 22 (by decide) (ht _ kf_Mod_56) (fun _ h9 => h9) rfl (by decide +kernel) rfl rfl (Nat.le_of_ble_eq_true rfl) dMod_count_18 (fun H locs hP hD hS => ?_)
    have hP : va_P D vwCl [(h0, .inr (6, [.ref f1, .ref f2, .ref f3, .ref f4, .ref f5, .ref f6, .ref f7, .ref f8, .ref f9, .ref f10, .ref f11, .ref n1, .ref n2, .ref n3, .ref n4, .int sm, .int ln, .int tt, .int cm, .int dm, .int si, .int mu, .int 0, .int lin, .int oc, .int od]))] H := hP
    have hD : va_D A [(h0, .inr (6, [.ref f1, .ref f2, .ref f3, .ref f4, .ref f5, .ref f6, .ref f7, .ref f8, .ref f9, .ref f10, .ref f11, .ref n1, .ref n2, .ref n3, .ref n4, .int sm, .int ln, .int tt, .int cm, .int dm, .int si, .int mu, .int 0, .int lin, .int oc, .int od]))] := hD
    refine lv_iload_n hx hb dMod_count_21 rfl (lv_at hl 1 rfl) ?_
    refine lv_if_ne (tgt := 32) hx hb dMod_count_22 (by decide) (fun _ => ?_) (fun c9 => absurd c9 (by decide))
    refine lv_iload_n hx hb dMod_count_32 rfl (lv_at hl 1 rfl) ?_
    refine lv_iconst (v := 1) hx hb dMod_count_33 (by decide) ?_
    refine lv_icmp_ne (tgt := 44) hx hb dMod_count_34 (by decide) (fun c9 => absurd (by decide) c9) (fun _ => ?_)
    refine lv_aload_n hx hb dMod_count_37 rfl (lv_at hl 0 rfl) ?_
    refine va_get (D := D) (ci := 6) (v := .int tt) hx hb ht inMod hown hK hP 0 rfl rfl 17 (by decide) (ht _ kf_Mod_134) (fun _ h9 => h9) rfl dMod_count_38 ?_
    refine lv_goto (tgt := 104) hx hb dMod_count_41 (by decide) ?_
    have hP := hP.sub (ws' := [(h0, .inr (6, [.ref f1, .ref f2, .ref f3, .ref f4, .ref f5, .ref f6, .ref f7, .ref f8, .ref f9, .ref f10, .ref f11, .ref n1, .ref n2, .ref n3, .ref n4, .int sm, .int ln, .int tt, .int cm, .int dm, .int si, .int mu, .int 0, .int lin, .int oc, .int od]))]) [0] rfl
    have hD := hD.sub (ws' := [(h0, .inr (6, [.ref f1, .ref f2, .ref f3, .ref f4, .ref f5, .ref f6, .ref f7, .ref f8, .ref f9, .ref f10, .ref f11, .ref n1, .ref n2, .ref n3, .ref n4, .int sm, .int ln, .int tt, .int cm, .int dm, .int si, .int mu, .int 0, .int lin, .int oc, .int od]))]) [0] (by decide) rfl
    exact e_i () hx hb hr hlk hK hP hD hS rfl rfl dMod_count_104
  · exact absurd c4 (by decide)

set_option maxHeartbeats 4000000 in
set_option maxRecDepth 100000 in
theorem c_Mod_count_2 (l : Launch) (D : va_G) (cF cI : ClassId) (sz : Nat) (h0 f1 f2 f3 f4 f5 f6 f7 f8 f9 f10 f11 n1 n2 n3 n4 : Nat) (sm : Int32) (ln : Int32) (tt : Int32) (cm : Int32) (dm : Int32) (si : Int32) (mu : Int32) (th : Int32) (lin : Int32) (oc : Int32) (od : Int32) : Met l yMod_count (.code yMod_count cMod_count 2 (some .int) :: TB) ({ frames := 1, cells := 0, slots := 0, locals := 22 }) (va_Pc [.ref h0, .int 2] (cPre D cF cI [(h0, .inr (6, [.ref f1, .ref f2, .ref f3, .ref f4, .ref f5, .ref f6, .ref f7, .ref f8, .ref f9, .ref f10, .ref f11, .ref n1, .ref n2, .ref n3, .ref n4, .int sm, .int ln, .int tt, .int cm, .int dm, .int si, .int mu, .int th, .int lin, .int oc, .int od]))] sz)) (va_Qi (fun (r : Int32) (_ : Unit) => r = cm) (cB D cF cI (va_A [(h0, .inr (6, [.ref f1, .ref f2, .ref f3, .ref f4, .ref f5, .ref f6, .ref f7, .ref f8, .ref f9, .ref f10, .ref f11, .ref n1, .ref n2, .ref n3, .ref n4, .int sm, .int ln, .int tt, .int cm, .int dm, .int si, .int mu, .int th, .int lin, .int oc, .int od]))] sz) (fun _ : Unit => [(h0, .inr (6, [.ref f1, .ref f2, .ref f3, .ref f4, .ref f5, .ref f6, .ref f7, .ref f8, .ref f9, .ref f10, .ref f11, .ref n1, .ref n2, .ref n3, .ref n4, .int sm, .int ln, .int tt, .int cm, .int dm, .int si, .int mu, .int 0, .int lin, .int oc, .int od]))])) (va_A [(h0, .inr (6, [.ref f1, .ref f2, .ref f3, .ref f4, .ref f5, .ref f6, .ref f7, .ref f8, .ref f9, .ref f10, .ref f11, .ref n1, .ref n2, .ref n3, .ref n4, .int sm, .int ln, .int tt, .int cm, .int dm, .int si, .int mu, .int th, .int lin, .int oc, .int od]))] sz)) 0 0 (va_A [(h0, .inr (6, [.ref f1, .ref f2, .ref f3, .ref f4, .ref f5, .ref f6, .ref f7, .ref f8, .ref f9, .ref f10, .ref f11, .ref n1, .ref n2, .ref n3, .ref n4, .int sm, .int ln, .int tt, .int cm, .int dm, .int si, .int mu, .int th, .int lin, .int oc, .int od]))] sz) := by
  refine c_ofW (own := RMod) (by decide) rfl (fun p e s m below meth c hsz hx hb hr hml hown ht hlk hin hP hK hD hmb => ?_)
  subst hsz
  generalize hAe : va_A [(h0, .inr (6, [.ref f1, .ref f2, .ref f3, .ref f4, .ref f5, .ref f6, .ref f7, .ref f8, .ref f9, .ref f10, .ref f11, .ref n1, .ref n2, .ref n3, .ref n4, .int sm, .int ln, .int tt, .int cm, .int dm, .int si, .int mu, .int th, .int lin, .int oc, .int od]))] s.heap.size = A at hD ⊢
  have hA : ∀ q : Nat, s.heap.size ≤ q → A q := fun q h => by rw [← hAe]; exact Or.inr h
  have hS : va_S A s.heap s.heap [] := va_S.rf
  have hl := lv_entry ([.ref h0, .int 2]) (n := 2) (Nat.le_of_ble_eq_true rfl)
  rw [lg_entry_eq]
  generalize (lg_sl ([.ref h0, .int 2]) ++ List.replicate (2 - (lg_sl ([.ref h0, .int 2])).length) Slot.unset).toArray = ls at hl ⊢
  have hl : lv_has ls 2 [(0, .ref h0), (1, .int 2)] := hl
  refine lv_iload_n hx hb dMod_count_0 rfl (lv_at hl 1 rfl) ?_
  refine lv_iconst (v := 0) hx hb dMod_count_1 (by decide) ?_
  refine lv_bipush (v := 6) hx hb dMod_count_2 (by decide) ?_
  refine q_i (wc := []) (wr := [(h0, .inr (6, [.ref f1, .ref f2, .ref f3, .ref f4, .ref f5, .ref f6, .ref f7, .ref f8, .ref f9, .ref f10, .ref f11, .ref n1, .ref n2, .ref n3, .ref n4, .int sm, .int ln, .int tt, .int cm, .int dm, .int si, .int mu, .int th, .int lin, .int oc, .int od]))]) [] [0] hK hP hD hS hA rfl rfl (by decide) (by decide) (va_runS (As := [.int 2, .int 0, .int 6]) (rest := []) ⟨hx, hb, hml, hown, ht⟩ (c_Mod_in l D cF cI s.heap.size 2 0 6) (va_cwS 3 ht (g_S km_Mod_141 ks_Mod_in kI_Mod kc_Mod_in) rfl rfl rfl (by decide +kernel) ⟨Nat.le_of_ble_eq_true rfl, Nat.le_of_ble_eq_true rfl⟩) (cPre_S hK hmb (hP.sub (ws' := []) [] rfl) (hD.sub (ws' := []) [] (by decide) rfl)) rfl rfl hl.1 rfl (lv_room (Nat.le_of_ble_eq_true rfl)) dMod_count_4 ⟨Nat.le_of_ble_eq_true rfl, Nat.le_of_ble_eq_true rfl⟩) (fun r1 u2 H locs w3 hP hD hS => ?_)
  subst w3
  have hP : va_P D vwCl [(h0, .inr (6, [.ref f1, .ref f2, .ref f3, .ref f4, .ref f5, .ref f6, .ref f7, .ref f8, .ref f9, .ref f10, .ref f11, .ref n1, .ref n2, .ref n3, .ref n4, .int sm, .int ln, .int tt, .int cm, .int dm, .int si, .int mu, .int th, .int lin, .int oc, .int od]))] H := hP
  have hD : va_D A [(h0, .inr (6, [.ref f1, .ref f2, .ref f3, .ref f4, .ref f5, .ref f6, .ref f7, .ref f8, .ref f9, .ref f10, .ref f11, .ref n1, .ref n2, .ref n3, .ref n4, .int sm, .int ln, .int tt, .int cm, .int dm, .int si, .int mu, .int th, .int lin, .int oc, .int od]))] := hD
  refine lv_if_ne (tgt := 16) hx hb dMod_count_7 (by decide) (fun c4 => ?_) (fun c4 => ?_)
  · refine lv_aload_n hx hb dMod_count_16 rfl (lv_at hl 0 rfl) ?_
    refine lv_iconst (v := 0) hx hb dMod_count_17 (by decide) ?_
    refine va_put (D := D) (ci := 6) (v := .int 0) (ty := .int) hx hb ht inMod tMod tMod_ok nMod hown hK hP hD hS 0 rfl rfl 22 (by decide) (ht _ kf_Mod_56) (fun _ h9 => h9) rfl (by decide +kernel) rfl rfl (Nat.le_of_ble_eq_true rfl) dMod_count_18 (fun H locs hP hD hS => ?_)
    have hP : va_P D vwCl [(h0, .inr (6, [.ref f1, .ref f2, .ref f3, .ref f4, .ref f5, .ref f6, .ref f7, .ref f8, .ref f9, .ref f10, .ref f11, .ref n1, .ref n2, .ref n3, .ref n4, .int sm, .int ln, .int tt, .int cm, .int dm, .int si, .int mu, .int 0, .int lin, .int oc, .int od]))] H := hP
    have hD : va_D A [(h0, .inr (6, [.ref f1, .ref f2, .ref f3, .ref f4, .ref f5, .ref f6, .ref f7, .ref f8, .ref f9, .ref f10, .ref f11, .ref n1, .ref n2, .ref n3, .ref n4, .int sm, .int ln, .int tt, .int cm, .int dm, .int si, .int mu, .int 0, .int lin, .int oc, .int od]))] := hD
    refine lv_iload_n hx hb dMod_count_21 rfl (lv_at hl 1 rfl) ?_
    refine lv_if_ne (tgt := 32) hx hb dMod_count_22 (by decide) (fun _ => ?_) (fun c9 => absurd c9 (by decide))
    refine lv_iload_n hx hb dMod_count_32 rfl (lv_at hl 1 rfl) ?_
    refine lv_iconst (v := 1) hx hb dMod_count_33 (by decide) ?_
    refine lv_icmp_ne (tgt := 44) hx hb dMod_count_34 (by decide) (fun _ => ?_) (fun c9 => absurd c9 (by decide))
    refine lv_iload_n hx hb dMod_count_44 rfl (lv_at hl 1 rfl) ?_
    refine lv_iconst (v := 2) hx hb dMod_count_45 (by decide) ?_
    refine lv_icmp_ne (tgt := 56) hx hb dMod_count_46 (by decide) (fun c9 => absurd (by decide) c9) (fun _ => ?_)
    refine lv_aload_n hx hb dMod_count_49 rfl (lv_at hl 0 rfl) ?_
    refine va_get (D := D) (ci := 6) (v := .int cm) hx hb ht inMod hown hK hP 0 rfl rfl 18 (by decide) (ht _ kf_Mod_131) (fun _ h9 => h9) rfl dMod_count_50 ?_
    refine lv_goto (tgt := 104) hx hb dMod_count_53 (by decide) ?_
    have hP := hP.sub (ws' := [(h0, .inr (6, [.ref f1, .ref f2, .ref f3, .ref f4, .ref f5, .ref f6, .ref f7, .ref f8, .ref f9, .ref f10, .ref f11, .ref n1, .ref n2, .ref n3, .ref n4, .int sm, .int ln, .int tt, .int cm, .int dm, .int si, .int mu, .int 0, .int lin, .int oc, .int od]))]) [0] rfl
    have hD := hD.sub (ws' := [(h0, .inr (6, [.ref f1, .ref f2, .ref f3, .ref f4, .ref f5, .ref f6, .ref f7, .ref f8, .ref f9, .ref f10, .ref f11, .ref n1, .ref n2, .ref n3, .ref n4, .int sm, .int ln, .int tt, .int cm, .int dm, .int si, .int mu, .int 0, .int lin, .int oc, .int od]))]) [0] (by decide) rfl
    exact e_i () hx hb hr hlk hK hP hD hS rfl rfl dMod_count_104
  · exact absurd c4 (by decide)

set_option maxHeartbeats 4000000 in
set_option maxRecDepth 100000 in
theorem c_Mod_count_3 (l : Launch) (D : va_G) (cF cI : ClassId) (sz : Nat) (h0 f1 f2 f3 f4 f5 f6 f7 f8 f9 f10 f11 n1 n2 n3 n4 : Nat) (sm : Int32) (ln : Int32) (tt : Int32) (cm : Int32) (dm : Int32) (si : Int32) (mu : Int32) (th : Int32) (lin : Int32) (oc : Int32) (od : Int32) : Met l yMod_count (.code yMod_count cMod_count 2 (some .int) :: TB) ({ frames := 1, cells := 0, slots := 0, locals := 22 }) (va_Pc [.ref h0, .int 3] (cPre D cF cI [(h0, .inr (6, [.ref f1, .ref f2, .ref f3, .ref f4, .ref f5, .ref f6, .ref f7, .ref f8, .ref f9, .ref f10, .ref f11, .ref n1, .ref n2, .ref n3, .ref n4, .int sm, .int ln, .int tt, .int cm, .int dm, .int si, .int mu, .int th, .int lin, .int oc, .int od]))] sz)) (va_Qi (fun (r : Int32) (_ : Unit) => r = dm) (cB D cF cI (va_A [(h0, .inr (6, [.ref f1, .ref f2, .ref f3, .ref f4, .ref f5, .ref f6, .ref f7, .ref f8, .ref f9, .ref f10, .ref f11, .ref n1, .ref n2, .ref n3, .ref n4, .int sm, .int ln, .int tt, .int cm, .int dm, .int si, .int mu, .int th, .int lin, .int oc, .int od]))] sz) (fun _ : Unit => [(h0, .inr (6, [.ref f1, .ref f2, .ref f3, .ref f4, .ref f5, .ref f6, .ref f7, .ref f8, .ref f9, .ref f10, .ref f11, .ref n1, .ref n2, .ref n3, .ref n4, .int sm, .int ln, .int tt, .int cm, .int dm, .int si, .int mu, .int 0, .int lin, .int oc, .int od]))])) (va_A [(h0, .inr (6, [.ref f1, .ref f2, .ref f3, .ref f4, .ref f5, .ref f6, .ref f7, .ref f8, .ref f9, .ref f10, .ref f11, .ref n1, .ref n2, .ref n3, .ref n4, .int sm, .int ln, .int tt, .int cm, .int dm, .int si, .int mu, .int th, .int lin, .int oc, .int od]))] sz)) 0 0 (va_A [(h0, .inr (6, [.ref f1, .ref f2, .ref f3, .ref f4, .ref f5, .ref f6, .ref f7, .ref f8, .ref f9, .ref f10, .ref f11, .ref n1, .ref n2, .ref n3, .ref n4, .int sm, .int ln, .int tt, .int cm, .int dm, .int si, .int mu, .int th, .int lin, .int oc, .int od]))] sz) := by
  refine c_ofW (own := RMod) (by decide) rfl (fun p e s m below meth c hsz hx hb hr hml hown ht hlk hin hP hK hD hmb => ?_)
  subst hsz
  generalize hAe : va_A [(h0, .inr (6, [.ref f1, .ref f2, .ref f3, .ref f4, .ref f5, .ref f6, .ref f7, .ref f8, .ref f9, .ref f10, .ref f11, .ref n1, .ref n2, .ref n3, .ref n4, .int sm, .int ln, .int tt, .int cm, .int dm, .int si, .int mu, .int th, .int lin, .int oc, .int od]))] s.heap.size = A at hD ⊢
  have hA : ∀ q : Nat, s.heap.size ≤ q → A q := fun q h => by rw [← hAe]; exact Or.inr h
  have hS : va_S A s.heap s.heap [] := va_S.rf
  have hl := lv_entry ([.ref h0, .int 3]) (n := 2) (Nat.le_of_ble_eq_true rfl)
  rw [lg_entry_eq]
  generalize (lg_sl ([.ref h0, .int 3]) ++ List.replicate (2 - (lg_sl ([.ref h0, .int 3])).length) Slot.unset).toArray = ls at hl ⊢
  have hl : lv_has ls 2 [(0, .ref h0), (1, .int 3)] := hl
  refine lv_iload_n hx hb dMod_count_0 rfl (lv_at hl 1 rfl) ?_
  refine lv_iconst (v := 0) hx hb dMod_count_1 (by decide) ?_
  refine lv_bipush (v := 6) hx hb dMod_count_2 (by decide) ?_
  refine q_i (wc := []) (wr := [(h0, .inr (6, [.ref f1, .ref f2, .ref f3, .ref f4, .ref f5, .ref f6, .ref f7, .ref f8, .ref f9, .ref f10, .ref f11, .ref n1, .ref n2, .ref n3, .ref n4, .int sm, .int ln, .int tt, .int cm, .int dm, .int si, .int mu, .int th, .int lin, .int oc, .int od]))]) [] [0] hK hP hD hS hA rfl rfl (by decide) (by decide) (va_runS (As := [.int 3, .int 0, .int 6]) (rest := []) ⟨hx, hb, hml, hown, ht⟩ (c_Mod_in l D cF cI s.heap.size 3 0 6) (va_cwS 3 ht (g_S km_Mod_141 ks_Mod_in kI_Mod kc_Mod_in) rfl rfl rfl (by decide +kernel) ⟨Nat.le_of_ble_eq_true rfl, Nat.le_of_ble_eq_true rfl⟩) (cPre_S hK hmb (hP.sub (ws' := []) [] rfl) (hD.sub (ws' := []) [] (by decide) rfl)) rfl rfl hl.1 rfl (lv_room (Nat.le_of_ble_eq_true rfl)) dMod_count_4 ⟨Nat.le_of_ble_eq_true rfl, Nat.le_of_ble_eq_true rfl⟩) (fun r1 u2 H locs w3 hP hD hS => ?_)
  subst w3
  have hP : va_P D vwCl [(h0, .inr (6, [.ref f1, .ref f2, .ref f3, .ref f4, .ref f5, .ref f6, .ref f7, .ref f8, .ref f9, .ref f10, .ref f11, .ref n1, .ref n2, .ref n3, .ref n4, .int sm, .int ln, .int tt, .int cm, .int dm, .int si, .int mu, .int th, .int lin, .int oc, .int od]))] H := hP
  have hD : va_D A [(h0, .inr (6, [.ref f1, .ref f2, .ref f3, .ref f4, .ref f5, .ref f6, .ref f7, .ref f8, .ref f9, .ref f10, .ref f11, .ref n1, .ref n2, .ref n3, .ref n4, .int sm, .int ln, .int tt, .int cm, .int dm, .int si, .int mu, .int th, .int lin, .int oc, .int od]))] := hD
  refine lv_if_ne (tgt := 16) hx hb dMod_count_7 (by decide) (fun c4 => ?_) (fun c4 => ?_)
  · refine lv_aload_n hx hb dMod_count_16 rfl (lv_at hl 0 rfl) ?_
    refine lv_iconst (v := 0) hx hb dMod_count_17 (by decide) ?_
    refine va_put (D := D) (ci := 6) (v := .int 0) (ty := .int) hx hb ht inMod tMod tMod_ok nMod hown hK hP hD hS 0 rfl rfl 22 (by decide) (ht _ kf_Mod_56) (fun _ h9 => h9) rfl (by decide +kernel) rfl rfl (Nat.le_of_ble_eq_true rfl) dMod_count_18 (fun H locs hP hD hS => ?_)
    have hP : va_P D vwCl [(h0, .inr (6, [.ref f1, .ref f2, .ref f3, .ref f4, .ref f5, .ref f6, .ref f7, .ref f8, .ref f9, .ref f10, .ref f11, .ref n1, .ref n2, .ref n3, .ref n4, .int sm, .int ln, .int tt, .int cm, .int dm, .int si, .int mu, .int 0, .int lin, .int oc, .int od]))] H := hP
    have hD : va_D A [(h0, .inr (6, [.ref f1, .ref f2, .ref f3, .ref f4, .ref f5, .ref f6, .ref f7, .ref f8, .ref f9, .ref f10, .ref f11, .ref n1, .ref n2, .ref n3, .ref n4, .int sm, .int ln, .int tt, .int cm, .int dm, .int si, .int mu, .int 0, .int lin, .int oc, .int od]))] := hD
    refine lv_iload_n hx hb dMod_count_21 rfl (lv_at hl 1 rfl) ?_
    refine lv_if_ne (tgt := 32) hx hb dMod_count_22 (by decide) (fun _ => ?_) (fun c9 => absurd c9 (by decide))
    refine lv_iload_n hx hb dMod_count_32 rfl (lv_at hl 1 rfl) ?_
    refine lv_iconst (v := 1) hx hb dMod_count_33 (by decide) ?_
    refine lv_icmp_ne (tgt := 44) hx hb dMod_count_34 (by decide) (fun _ => ?_) (fun c9 => absurd c9 (by decide))
    refine lv_iload_n hx hb dMod_count_44 rfl (lv_at hl 1 rfl) ?_
    refine lv_iconst (v := 2) hx hb dMod_count_45 (by decide) ?_
    refine lv_icmp_ne (tgt := 56) hx hb dMod_count_46 (by decide) (fun _ => ?_) (fun c9 => absurd c9 (by decide))
    refine lv_iload_n hx hb dMod_count_56 rfl (lv_at hl 1 rfl) ?_
    refine lv_iconst (v := 3) hx hb dMod_count_57 (by decide) ?_
    refine lv_icmp_ne (tgt := 68) hx hb dMod_count_58 (by decide) (fun c9 => absurd (by decide) c9) (fun _ => ?_)
    refine lv_aload_n hx hb dMod_count_61 rfl (lv_at hl 0 rfl) ?_
    refine va_get (D := D) (ci := 6) (v := .int dm) hx hb ht inMod hown hK hP 0 rfl rfl 19 (by decide) (ht _ kf_Mod_161) (fun _ h9 => h9) rfl dMod_count_62 ?_
    refine lv_goto (tgt := 104) hx hb dMod_count_65 (by decide) ?_
    have hP := hP.sub (ws' := [(h0, .inr (6, [.ref f1, .ref f2, .ref f3, .ref f4, .ref f5, .ref f6, .ref f7, .ref f8, .ref f9, .ref f10, .ref f11, .ref n1, .ref n2, .ref n3, .ref n4, .int sm, .int ln, .int tt, .int cm, .int dm, .int si, .int mu, .int 0, .int lin, .int oc, .int od]))]) [0] rfl
    have hD := hD.sub (ws' := [(h0, .inr (6, [.ref f1, .ref f2, .ref f3, .ref f4, .ref f5, .ref f6, .ref f7, .ref f8, .ref f9, .ref f10, .ref f11, .ref n1, .ref n2, .ref n3, .ref n4, .int sm, .int ln, .int tt, .int cm, .int dm, .int si, .int mu, .int 0, .int lin, .int oc, .int od]))]) [0] (by decide) rfl
    exact e_i () hx hb hr hlk hK hP hD hS rfl rfl dMod_count_104
  · exact absurd c4 (by decide)

set_option maxHeartbeats 4000000 in
set_option maxRecDepth 100000 in
theorem c_Mod_count_4 (l : Launch) (D : va_G) (cF cI : ClassId) (sz : Nat) (h0 f1 f2 f3 f4 f5 f6 f7 f8 f9 f10 f11 n1 n2 n3 n4 : Nat) (sm : Int32) (ln : Int32) (tt : Int32) (cm : Int32) (dm : Int32) (si : Int32) (mu : Int32) (th : Int32) (lin : Int32) (oc : Int32) (od : Int32) : Met l yMod_count (.code yMod_count cMod_count 2 (some .int) :: TB) ({ frames := 1, cells := 0, slots := 0, locals := 22 }) (va_Pc [.ref h0, .int 4] (cPre D cF cI [(h0, .inr (6, [.ref f1, .ref f2, .ref f3, .ref f4, .ref f5, .ref f6, .ref f7, .ref f8, .ref f9, .ref f10, .ref f11, .ref n1, .ref n2, .ref n3, .ref n4, .int sm, .int ln, .int tt, .int cm, .int dm, .int si, .int mu, .int th, .int lin, .int oc, .int od]))] sz)) (va_Qi (fun (r : Int32) (_ : Unit) => r = si) (cB D cF cI (va_A [(h0, .inr (6, [.ref f1, .ref f2, .ref f3, .ref f4, .ref f5, .ref f6, .ref f7, .ref f8, .ref f9, .ref f10, .ref f11, .ref n1, .ref n2, .ref n3, .ref n4, .int sm, .int ln, .int tt, .int cm, .int dm, .int si, .int mu, .int th, .int lin, .int oc, .int od]))] sz) (fun _ : Unit => [(h0, .inr (6, [.ref f1, .ref f2, .ref f3, .ref f4, .ref f5, .ref f6, .ref f7, .ref f8, .ref f9, .ref f10, .ref f11, .ref n1, .ref n2, .ref n3, .ref n4, .int sm, .int ln, .int tt, .int cm, .int dm, .int si, .int mu, .int 0, .int lin, .int oc, .int od]))])) (va_A [(h0, .inr (6, [.ref f1, .ref f2, .ref f3, .ref f4, .ref f5, .ref f6, .ref f7, .ref f8, .ref f9, .ref f10, .ref f11, .ref n1, .ref n2, .ref n3, .ref n4, .int sm, .int ln, .int tt, .int cm, .int dm, .int si, .int mu, .int th, .int lin, .int oc, .int od]))] sz)) 0 0 (va_A [(h0, .inr (6, [.ref f1, .ref f2, .ref f3, .ref f4, .ref f5, .ref f6, .ref f7, .ref f8, .ref f9, .ref f10, .ref f11, .ref n1, .ref n2, .ref n3, .ref n4, .int sm, .int ln, .int tt, .int cm, .int dm, .int si, .int mu, .int th, .int lin, .int oc, .int od]))] sz) := by
  refine c_ofW (own := RMod) (by decide) rfl (fun p e s m below meth c hsz hx hb hr hml hown ht hlk hin hP hK hD hmb => ?_)
  subst hsz
  generalize hAe : va_A [(h0, .inr (6, [.ref f1, .ref f2, .ref f3, .ref f4, .ref f5, .ref f6, .ref f7, .ref f8, .ref f9, .ref f10, .ref f11, .ref n1, .ref n2, .ref n3, .ref n4, .int sm, .int ln, .int tt, .int cm, .int dm, .int si, .int mu, .int th, .int lin, .int oc, .int od]))] s.heap.size = A at hD ⊢
  have hA : ∀ q : Nat, s.heap.size ≤ q → A q := fun q h => by rw [← hAe]; exact Or.inr h
  have hS : va_S A s.heap s.heap [] := va_S.rf
  have hl := lv_entry ([.ref h0, .int 4]) (n := 2) (Nat.le_of_ble_eq_true rfl)
  rw [lg_entry_eq]
  generalize (lg_sl ([.ref h0, .int 4]) ++ List.replicate (2 - (lg_sl ([.ref h0, .int 4])).length) Slot.unset).toArray = ls at hl ⊢
  have hl : lv_has ls 2 [(0, .ref h0), (1, .int 4)] := hl
  refine lv_iload_n hx hb dMod_count_0 rfl (lv_at hl 1 rfl) ?_
  refine lv_iconst (v := 0) hx hb dMod_count_1 (by decide) ?_
  refine lv_bipush (v := 6) hx hb dMod_count_2 (by decide) ?_
  refine q_i (wc := []) (wr := [(h0, .inr (6, [.ref f1, .ref f2, .ref f3, .ref f4, .ref f5, .ref f6, .ref f7, .ref f8, .ref f9, .ref f10, .ref f11, .ref n1, .ref n2, .ref n3, .ref n4, .int sm, .int ln, .int tt, .int cm, .int dm, .int si, .int mu, .int th, .int lin, .int oc, .int od]))]) [] [0] hK hP hD hS hA rfl rfl (by decide) (by decide) (va_runS (As := [.int 4, .int 0, .int 6]) (rest := []) ⟨hx, hb, hml, hown, ht⟩ (c_Mod_in l D cF cI s.heap.size 4 0 6) (va_cwS 3 ht (g_S km_Mod_141 ks_Mod_in kI_Mod kc_Mod_in) rfl rfl rfl (by decide +kernel) ⟨Nat.le_of_ble_eq_true rfl, Nat.le_of_ble_eq_true rfl⟩) (cPre_S hK hmb (hP.sub (ws' := []) [] rfl) (hD.sub (ws' := []) [] (by decide) rfl)) rfl rfl hl.1 rfl (lv_room (Nat.le_of_ble_eq_true rfl)) dMod_count_4 ⟨Nat.le_of_ble_eq_true rfl, Nat.le_of_ble_eq_true rfl⟩) (fun r1 u2 H locs w3 hP hD hS => ?_)
  subst w3
  have hP : va_P D vwCl [(h0, .inr (6, [.ref f1, .ref f2, .ref f3, .ref f4, .ref f5, .ref f6, .ref f7, .ref f8, .ref f9, .ref f10, .ref f11, .ref n1, .ref n2, .ref n3, .ref n4, .int sm, .int ln, .int tt, .int cm, .int dm, .int si, .int mu, .int th, .int lin, .int oc, .int od]))] H := hP
  have hD : va_D A [(h0, .inr (6, [.ref f1, .ref f2, .ref f3, .ref f4, .ref f5, .ref f6, .ref f7, .ref f8, .ref f9, .ref f10, .ref f11, .ref n1, .ref n2, .ref n3, .ref n4, .int sm, .int ln, .int tt, .int cm, .int dm, .int si, .int mu, .int th, .int lin, .int oc, .int od]))] := hD
  refine lv_if_ne (tgt := 16) hx hb dMod_count_7 (by decide) (fun c4 => ?_) (fun c4 => ?_)
  · refine lv_aload_n hx hb dMod_count_16 rfl (lv_at hl 0 rfl) ?_
    refine lv_iconst (v := 0) hx hb dMod_count_17 (by decide) ?_
    refine va_put (D := D) (ci := 6) (v := .int 0) (ty := .int) hx hb ht inMod tMod tMod_ok nMod hown hK hP hD hS 0 rfl rfl 22 (by decide) (ht _ kf_Mod_56) (fun _ h9 => h9) rfl (by decide +kernel) rfl rfl (Nat.le_of_ble_eq_true rfl) dMod_count_18 (fun H locs hP hD hS => ?_)
    have hP : va_P D vwCl [(h0, .inr (6, [.ref f1, .ref f2, .ref f3, .ref f4, .ref f5, .ref f6, .ref f7, .ref f8, .ref f9, .ref f10, .ref f11, .ref n1, .ref n2, .ref n3, .ref n4, .int sm, .int ln, .int tt, .int cm, .int dm, .int si, .int mu, .int 0, .int lin, .int oc, .int od]))] H := hP
    have hD : va_D A [(h0, .inr (6, [.ref f1, .ref f2, .ref f3, .ref f4, .ref f5, .ref f6, .ref f7, .ref f8, .ref f9, .ref f10, .ref f11, .ref n1, .ref n2, .ref n3, .ref n4, .int sm, .int ln, .int tt, .int cm, .int dm, .int si, .int mu, .int 0, .int lin, .int oc, .int od]))] := hD
    refine lv_iload_n hx hb dMod_count_21 rfl (lv_at hl 1 rfl) ?_
    refine lv_if_ne (tgt := 32) hx hb dMod_count_22 (by decide) (fun _ => ?_) (fun c9 => absurd c9 (by decide))
    refine lv_iload_n hx hb dMod_count_32 rfl (lv_at hl 1 rfl) ?_
    refine lv_iconst (v := 1) hx hb dMod_count_33 (by decide) ?_
    refine lv_icmp_ne (tgt := 44) hx hb dMod_count_34 (by decide) (fun _ => ?_) (fun c9 => absurd c9 (by decide))
    refine lv_iload_n hx hb dMod_count_44 rfl (lv_at hl 1 rfl) ?_
    refine lv_iconst (v := 2) hx hb dMod_count_45 (by decide) ?_
    refine lv_icmp_ne (tgt := 56) hx hb dMod_count_46 (by decide) (fun _ => ?_) (fun c9 => absurd c9 (by decide))
    refine lv_iload_n hx hb dMod_count_56 rfl (lv_at hl 1 rfl) ?_
    refine lv_iconst (v := 3) hx hb dMod_count_57 (by decide) ?_
    refine lv_icmp_ne (tgt := 68) hx hb dMod_count_58 (by decide) (fun _ => ?_) (fun c9 => absurd c9 (by decide))
    refine lv_iload_n hx hb dMod_count_68 rfl (lv_at hl 1 rfl) ?_
    refine lv_iconst (v := 4) hx hb dMod_count_69 (by decide) ?_
    refine lv_icmp_ne (tgt := 80) hx hb dMod_count_70 (by decide) (fun c9 => absurd (by decide) c9) (fun _ => ?_)
    refine lv_aload_n hx hb dMod_count_73 rfl (lv_at hl 0 rfl) ?_
    refine va_get (D := D) (ci := 6) (v := .int si) hx hb ht inMod hown hK hP 0 rfl rfl 20 (by decide) (ht _ kf_Mod_149) (fun _ h9 => h9) rfl dMod_count_74 ?_
    refine lv_goto (tgt := 104) hx hb dMod_count_77 (by decide) ?_
    have hP := hP.sub (ws' := [(h0, .inr (6, [.ref f1, .ref f2, .ref f3, .ref f4, .ref f5, .ref f6, .ref f7, .ref f8, .ref f9, .ref f10, .ref f11, .ref n1, .ref n2, .ref n3, .ref n4, .int sm, .int ln, .int tt, .int cm, .int dm, .int si, .int mu, .int 0, .int lin, .int oc, .int od]))]) [0] rfl
    have hD := hD.sub (ws' := [(h0, .inr (6, [.ref f1, .ref f2, .ref f3, .ref f4, .ref f5, .ref f6, .ref f7, .ref f8, .ref f9, .ref f10, .ref f11, .ref n1, .ref n2, .ref n3, .ref n4, .int sm, .int ln, .int tt, .int cm, .int dm, .int si, .int mu, .int 0, .int lin, .int oc, .int od]))]) [0] (by decide) rfl
    exact e_i () hx hb hr hlk hK hP hD hS rfl rfl dMod_count_104
  · exact absurd c4 (by decide)

set_option maxHeartbeats 4000000 in
set_option maxRecDepth 100000 in
theorem c_Mod_count_5 (l : Launch) (D : va_G) (cF cI : ClassId) (sz : Nat) (h0 f1 f2 f3 f4 f5 f6 f7 f8 f9 f10 f11 n1 n2 n3 n4 : Nat) (sm : Int32) (ln : Int32) (tt : Int32) (cm : Int32) (dm : Int32) (si : Int32) (mu : Int32) (th : Int32) (lin : Int32) (oc : Int32) (od : Int32) : Met l yMod_count (.code yMod_count cMod_count 2 (some .int) :: TB) ({ frames := 1, cells := 0, slots := 0, locals := 22 }) (va_Pc [.ref h0, .int 5] (cPre D cF cI [(h0, .inr (6, [.ref f1, .ref f2, .ref f3, .ref f4, .ref f5, .ref f6, .ref f7, .ref f8, .ref f9, .ref f10, .ref f11, .ref n1, .ref n2, .ref n3, .ref n4, .int sm, .int ln, .int tt, .int cm, .int dm, .int si, .int mu, .int th, .int lin, .int oc, .int od]))] sz)) (va_Qi (fun (r : Int32) (_ : Unit) => r = mu) (cB D cF cI (va_A [(h0, .inr (6, [.ref f1, .ref f2, .ref f3, .ref f4, .ref f5, .ref f6, .ref f7, .ref f8, .ref f9, .ref f10, .ref f11, .ref n1, .ref n2, .ref n3, .ref n4, .int sm, .int ln, .int tt, .int cm, .int dm, .int si, .int mu, .int th, .int lin, .int oc, .int od]))] sz) (fun _ : Unit => [(h0, .inr (6, [.ref f1, .ref f2, .ref f3, .ref f4, .ref f5, .ref f6, .ref f7, .ref f8, .ref f9, .ref f10, .ref f11, .ref n1, .ref n2, .ref n3, .ref n4, .int sm, .int ln, .int tt, .int cm, .int dm, .int si, .int mu, .int 0, .int lin, .int oc, .int od]))])) (va_A [(h0, .inr (6, [.ref f1, .ref f2, .ref f3, .ref f4, .ref f5, .ref f6, .ref f7, .ref f8, .ref f9, .ref f10, .ref f11, .ref n1, .ref n2, .ref n3, .ref n4, .int sm, .int ln, .int tt, .int cm, .int dm, .int si, .int mu, .int th, .int lin, .int oc, .int od]))] sz)) 0 0 (va_A [(h0, .inr (6, [.ref f1, .ref f2, .ref f3, .ref f4, .ref f5, .ref f6, .ref f7, .ref f8, .ref f9, .ref f10, .ref f11, .ref n1, .ref n2, .ref n3, .ref n4, .int sm, .int ln, .int tt, .int cm, .int dm, .int si, .int mu, .int th, .int lin, .int oc, .int od]))] sz) := by
  refine c_ofW (own := RMod) (by decide) rfl (fun p e s m below meth c hsz hx hb hr hml hown ht hlk hin hP hK hD hmb => ?_)
  subst hsz
  generalize hAe : va_A [(h0, .inr (6, [.ref f1, .ref f2, .ref f3, .ref f4, .ref f5, .ref f6, .ref f7, .ref f8, .ref f9, .ref f10, .ref f11, .ref n1, .ref n2, .ref n3, .ref n4, .int sm, .int ln, .int tt, .int cm, .int dm, .int si, .int mu, .int th, .int lin, .int oc, .int od]))] s.heap.size = A at hD ⊢
  have hA : ∀ q : Nat, s.heap.size ≤ q → A q := fun q h => by rw [← hAe]; exact Or.inr h
  have hS : va_S A s.heap s.heap [] := va_S.rf
  have hl := lv_entry ([.ref h0, .int 5]) (n := 2) (Nat.le_of_ble_eq_true rfl)
  rw [lg_entry_eq]
  generalize (lg_sl ([.ref h0, .int 5]) ++ List.replicate (2 - (lg_sl ([.ref h0, .int 5])).length) Slot.unset).toArray = ls at hl ⊢
  have hl : lv_has ls 2 [(0, .ref h0), (1, .int 5)] := hl
  refine lv_iload_n hx hb dMod_count_0 rfl (lv_at hl 1 rfl) ?_
  refine lv_iconst (v := 0) hx hb dMod_count_1 (by decide) ?_
  refine lv_bipush (v := 6) hx hb dMod_count_2 (by decide) ?_
  refine q_i (wc := []) (wr := [(h0, .inr (6, [.ref f1, .ref f2, .ref f3, .ref f4, .ref f5, .ref f6, .ref f7, .ref f8, .ref f9, .ref f10, .ref f11, .ref n1, .ref n2, .ref n3, .ref n4, .int sm, .int ln, .int tt, .int cm, .int dm, .int si, .int mu, .int th, .int lin, .int oc, .int od]))]) [] [0] hK hP hD hS hA rfl rfl (by decide) (by decide) (va_runS (As := [.int 5, .int 0, .int 6]) (rest := []) ⟨hx, hb, hml, hown, ht⟩ (c_Mod_in l D cF cI s.heap.size 5 0 6) (va_cwS 3 ht (g_S km_Mod_141 ks_Mod_in kI_Mod kc_Mod_in) rfl rfl rfl (by decide +kernel) ⟨Nat.le_of_ble_eq_true rfl, Nat.le_of_ble_eq_true rfl⟩) (cPre_S hK hmb (hP.sub (ws' := []) [] rfl) (hD.sub (ws' := []) [] (by decide) rfl)) rfl rfl hl.1 rfl (lv_room (Nat.le_of_ble_eq_true rfl)) dMod_count_4 ⟨Nat.le_of_ble_eq_true rfl, Nat.le_of_ble_eq_true rfl⟩) (fun r1 u2 H locs w3 hP hD hS => ?_)
  subst w3
  have hP : va_P D vwCl [(h0, .inr (6, [.ref f1, .ref f2, .ref f3, .ref f4, .ref f5, .ref f6, .ref f7, .ref f8, .ref f9, .ref f10, .ref f11, .ref n1, .ref n2, .ref n3, .ref n4, .int sm, .int ln, .int tt, .int cm, .int dm, .int si, .int mu, .int th, .int lin, .int oc, .int od]))] H := hP
  have hD : va_D A [(h0, .inr (6, [.ref f1, .ref f2, .ref f3, .ref f4, .ref f5, .ref f6, .ref f7, .ref f8, .ref f9, .ref f10, .ref f11, .ref n1, .ref n2, .ref n3, .ref n4, .int sm, .int ln, .int tt, .int cm, .int dm, .int si, .int mu, .int th, .int lin, .int oc, .int od]))] := hD
  refine lv_if_ne (tgt := 16) hx hb dMod_count_7 (by decide) (fun c4 => ?_) (fun c4 => ?_)
  · refine lv_aload_n hx hb dMod_count_16 rfl (lv_at hl 0 rfl) ?_
    refine lv_iconst (v := 0) hx hb dMod_count_17 (by decide) ?_
    refine va_put (D := D) (ci := 6) (v := .int 0) (ty := .int) hx hb ht inMod tMod tMod_ok nMod hown hK hP hD hS 0 rfl rfl 22 (by decide) (ht _ kf_Mod_56) (fun _ h9 => h9) rfl (by decide +kernel) rfl rfl (Nat.le_of_ble_eq_true rfl) dMod_count_18 (fun H locs hP hD hS => ?_)
    have hP : va_P D vwCl [(h0, .inr (6, [.ref f1, .ref f2, .ref f3, .ref f4, .ref f5, .ref f6, .ref f7, .ref f8, .ref f9, .ref f10, .ref f11, .ref n1, .ref n2, .ref n3, .ref n4, .int sm, .int ln, .int tt, .int cm, .int dm, .int si, .int mu, .int 0, .int lin, .int oc, .int od]))] H := hP
    have hD : va_D A [(h0, .inr (6, [.ref f1, .ref f2, .ref f3, .ref f4, .ref f5, .ref f6, .ref f7, .ref f8, .ref f9, .ref f10, .ref f11, .ref n1, .ref n2, .ref n3, .ref n4, .int sm, .int ln, .int tt, .int cm, .int dm, .int si, .int mu, .int 0, .int lin, .int oc, .int od]))] := hD
    refine lv_iload_n hx hb dMod_count_21 rfl (lv_at hl 1 rfl) ?_
    refine lv_if_ne (tgt := 32) hx hb dMod_count_22 (by decide) (fun _ => ?_) (fun c9 => absurd c9 (by decide))
    refine lv_iload_n hx hb dMod_count_32 rfl (lv_at hl 1 rfl) ?_
    refine lv_iconst (v := 1) hx hb dMod_count_33 (by decide) ?_
    refine lv_icmp_ne (tgt := 44) hx hb dMod_count_34 (by decide) (fun _ => ?_) (fun c9 => absurd c9 (by decide))
    refine lv_iload_n hx hb dMod_count_44 rfl (lv_at hl 1 rfl) ?_
    refine lv_iconst (v := 2) hx hb dMod_count_45 (by decide) ?_
    refine lv_icmp_ne (tgt := 56) hx hb dMod_count_46 (by decide) (fun _ => ?_) (fun c9 => absurd c9 (by decide))
    refine lv_iload_n hx hb dMod_count_56 rfl (lv_at hl 1 rfl) ?_
    refine lv_iconst (v := 3) hx hb dMod_count_57 (by decide) ?_
    refine lv_icmp_ne (tgt := 68) hx hb dMod_count_58 (by decide) (fun _ => ?_) (fun c9 => absurd c9 (by decide))
    refine lv_iload_n hx hb dMod_count_68 rfl (lv_at hl 1 rfl) ?_
    refine lv_iconst (v := 4) hx hb dMod_count_69 (by decide) ?_
    refine lv_icmp_ne (tgt := 80) hx hb dMod_count_70 (by decide) (fun _ => ?_) (fun c9 => absurd c9 (by decide))
    refine lv_iload_n hx hb dMod_count_80 rfl (lv_at hl 1 rfl) ?_
    refine lv_iconst (v := 5) hx hb dMod_count_81 (by decide) ?_
    refine lv_icmp_ne (tgt := 92) hx hb dMod_count_82 (by decide) (fun c9 => absurd (by decide) c9) (fun _ => ?_)
    refine lv_aload_n hx hb dMod_count_85 rfl (lv_at hl 0 rfl) ?_
    refine va_get (D := D) (ci := 6) (v := .int mu) hx hb ht inMod hown hK hP 0 rfl rfl 21 (by decide) (ht _ kf_Mod_138) (fun _ h9 => h9) rfl dMod_count_86 ?_
    refine lv_goto (tgt := 104) hx hb dMod_count_89 (by decide) ?_
    have hP := hP.sub (ws' := [(h0, .inr (6, [.ref f1, .ref f2, .ref f3, .ref f4, .ref f5, .ref f6, .ref f7, .ref f8, .ref f9, .ref f10, .ref f11, .ref n1, .ref n2, .ref n3, .ref n4, .int sm, .int ln, .int tt, .int cm, .int dm, .int si, .int mu, .int 0, .int lin, .int oc, .int od]))]) [0] rfl
    have hD := hD.sub (ws' := [(h0, .inr (6, [.ref f1, .ref f2, .ref f3, .ref f4, .ref f5, .ref f6, .ref f7, .ref f8, .ref f9, .ref f10, .ref f11, .ref n1, .ref n2, .ref n3, .ref n4, .int sm, .int ln, .int tt, .int cm, .int dm, .int si, .int mu, .int 0, .int lin, .int oc, .int od]))]) [0] (by decide) rfl
    exact e_i () hx hb hr hlk hK hP hD hS rfl rfl dMod_count_104
  · exact absurd c4 (by decide)

set_option maxHeartbeats 4000000 in
set_option maxRecDepth 100000 in
theorem c_Mod_count_6 (l : Launch) (D : va_G) (cF cI : ClassId) (sz : Nat) (h0 f1 f2 f3 f4 f5 f6 f7 f8 f9 f10 f11 n1 n2 n3 n4 : Nat) (sm : Int32) (ln : Int32) (tt : Int32) (cm : Int32) (dm : Int32) (si : Int32) (mu : Int32) (th : Int32) (lin : Int32) (oc : Int32) (od : Int32) (hlb : lin = 0 ∨ lin = 1) : Met l yMod_count (.code yMod_count cMod_count 2 (some .int) :: TB) ({ frames := 1, cells := 0, slots := 0, locals := 22 }) (va_Pc [.ref h0, .int 6] (cPre D cF cI [(h0, .inr (6, [.ref f1, .ref f2, .ref f3, .ref f4, .ref f5, .ref f6, .ref f7, .ref f8, .ref f9, .ref f10, .ref f11, .ref n1, .ref n2, .ref n3, .ref n4, .int sm, .int ln, .int tt, .int cm, .int dm, .int si, .int mu, .int th, .int lin, .int oc, .int od]))] sz)) (va_Qi (fun (r : Int32) (_ : Unit) => r = lin) (cB D cF cI (va_A [(h0, .inr (6, [.ref f1, .ref f2, .ref f3, .ref f4, .ref f5, .ref f6, .ref f7, .ref f8, .ref f9, .ref f10, .ref f11, .ref n1, .ref n2, .ref n3, .ref n4, .int sm, .int ln, .int tt, .int cm, .int dm, .int si, .int mu, .int th, .int lin, .int oc, .int od]))] sz) (fun _ : Unit => [(h0, .inr (6, [.ref f1, .ref f2, .ref f3, .ref f4, .ref f5, .ref f6, .ref f7, .ref f8, .ref f9, .ref f10, .ref f11, .ref n1, .ref n2, .ref n3, .ref n4, .int sm, .int ln, .int tt, .int cm, .int dm, .int si, .int mu, .int 0, .int lin, .int oc, .int od]))])) (va_A [(h0, .inr (6, [.ref f1, .ref f2, .ref f3, .ref f4, .ref f5, .ref f6, .ref f7, .ref f8, .ref f9, .ref f10, .ref f11, .ref n1, .ref n2, .ref n3, .ref n4, .int sm, .int ln, .int tt, .int cm, .int dm, .int si, .int mu, .int th, .int lin, .int oc, .int od]))] sz)) 0 0 (va_A [(h0, .inr (6, [.ref f1, .ref f2, .ref f3, .ref f4, .ref f5, .ref f6, .ref f7, .ref f8, .ref f9, .ref f10, .ref f11, .ref n1, .ref n2, .ref n3, .ref n4, .int sm, .int ln, .int tt, .int cm, .int dm, .int si, .int mu, .int th, .int lin, .int oc, .int od]))] sz) := by
  refine c_ofW (own := RMod) (by decide) rfl (fun p e s m below meth c hsz hx hb hr hml hown ht hlk hin hP hK hD hmb => ?_)
  subst hsz
  generalize hAe : va_A [(h0, .inr (6, [.ref f1, .ref f2, .ref f3, .ref f4, .ref f5, .ref f6, .ref f7, .ref f8, .ref f9, .ref f10, .ref f11, .ref n1, .ref n2, .ref n3, .ref n4, .int sm, .int ln, .int tt, .int cm, .int dm, .int si, .int mu, .int th, .int lin, .int oc, .int od]))] s.heap.size = A at hD ⊢
  have hA : ∀ q : Nat, s.heap.size ≤ q → A q := fun q h => by rw [← hAe]; exact Or.inr h
  have hS : va_S A s.heap s.heap [] := va_S.rf
  have hl := lv_entry ([.ref h0, .int 6]) (n := 2) (Nat.le_of_ble_eq_true rfl)
  rw [lg_entry_eq]
  generalize (lg_sl ([.ref h0, .int 6]) ++ List.replicate (2 - (lg_sl ([.ref h0, .int 6])).length) Slot.unset).toArray = ls at hl ⊢
  have hl : lv_has ls 2 [(0, .ref h0), (1, .int 6)] := hl
  refine lv_iload_n hx hb dMod_count_0 rfl (lv_at hl 1 rfl) ?_
  refine lv_iconst (v := 0) hx hb dMod_count_1 (by decide) ?_
  refine lv_bipush (v := 6) hx hb dMod_count_2 (by decide) ?_
  refine q_i (wc := []) (wr := [(h0, .inr (6, [.ref f1, .ref f2, .ref f3, .ref f4, .ref f5, .ref f6, .ref f7, .ref f8, .ref f9, .ref f10, .ref f11, .ref n1, .ref n2, .ref n3, .ref n4, .int sm, .int ln, .int tt, .int cm, .int dm, .int si, .int mu, .int th, .int lin, .int oc, .int od]))]) [] [0] hK hP hD hS hA rfl rfl (by decide) (by decide) (va_runS (As := [.int 6, .int 0, .int 6]) (rest := []) ⟨hx, hb, hml, hown, ht⟩ (c_Mod_in l D cF cI s.heap.size 6 0 6) (va_cwS 3 ht (g_S km_Mod_141 ks_Mod_in kI_Mod kc_Mod_in) rfl rfl rfl (by decide +kernel) ⟨Nat.le_of_ble_eq_true rfl, Nat.le_of_ble_eq_true rfl⟩) (cPre_S hK hmb (hP.sub (ws' := []) [] rfl) (hD.sub (ws' := []) [] (by decide) rfl)) rfl rfl hl.1 rfl (lv_room (Nat.le_of_ble_eq_true rfl)) dMod_count_4 ⟨Nat.le_of_ble_eq_true rfl, Nat.le_of_ble_eq_true rfl⟩) (fun r1 u2 H locs w3 hP hD hS => ?_)
  subst w3
  have hP : va_P D vwCl [(h0, .inr (6, [.ref f1, .ref f2, .ref f3, .ref f4, .ref f5, .ref f6, .ref f7, .ref f8, .ref f9, .ref f10, .ref f11, .ref n1, .ref n2, .ref n3, .ref n4, .int sm, .int ln, .int tt, .int cm, .int dm, .int si, .int mu, .int th, .int lin, .int oc, .int od]))] H := hP
  have hD : va_D A [(h0, .inr (6, [.ref f1, .ref f2, .ref f3, .ref f4, .ref f5, .ref f6, .ref f7, .ref f8, .ref f9, .ref f10, .ref f11, .ref n1, .ref n2, .ref n3, .ref n4, .int sm, .int ln, .int tt, .int cm, .int dm, .int si, .int mu, .int th, .int lin, .int oc, .int od]))] := hD
  refine lv_if_ne (tgt := 16) hx hb dMod_count_7 (by decide) (fun c4 => ?_) (fun c4 => ?_)
  · refine lv_aload_n hx hb dMod_count_16 rfl (lv_at hl 0 rfl) ?_
    refine lv_iconst (v := 0) hx hb dMod_count_17 (by decide) ?_
    refine va_put (D := D) (ci := 6) (v := .int 0) (ty := .int) hx hb ht inMod tMod tMod_ok nMod hown hK hP hD hS 0 rfl rfl 22 (by decide) (ht _ kf_Mod_56) (fun _ h9 => h9) rfl (by decide +kernel) rfl rfl (Nat.le_of_ble_eq_true rfl) dMod_count_18 (fun H locs hP hD hS => ?_)
    have hP : va_P D vwCl [(h0, .inr (6, [.ref f1, .ref f2, .ref f3, .ref f4, .ref f5, .ref f6, .ref f7, .ref f8, .ref f9, .ref f10, .ref f11, .ref n1, .ref n2, .ref n3, .ref n4, .int sm, .int ln, .int tt, .int cm, .int dm, .int si, .int mu, .int 0, .int lin, .int oc, .int od]))] H := hP
    have hD : va_D A [(h0, .inr (6, [.ref f1, .ref f2, .ref f3, .ref f4, .ref f5, .ref f6, .ref f7, .ref f8, .ref f9, .ref f10, .ref f11, .ref n1, .ref n2, .ref n3, .ref n4, .int sm, .int ln, .int tt, .int cm, .int dm, .int si, .int mu, .int 0, .int lin, .int oc, .int od]))] := hD
    refine lv_iload_n hx hb dMod_count_21 rfl (lv_at hl 1 rfl) ?_
    refine lv_if_ne (tgt := 32) hx hb dMod_count_22 (by decide) (fun _ => ?_) (fun c9 => absurd c9 (by decide))
    refine lv_iload_n hx hb dMod_count_32 rfl (lv_at hl 1 rfl) ?_
    refine lv_iconst (v := 1) hx hb dMod_count_33 (by decide) ?_
    refine lv_icmp_ne (tgt := 44) hx hb dMod_count_34 (by decide) (fun _ => ?_) (fun c9 => absurd c9 (by decide))
    refine lv_iload_n hx hb dMod_count_44 rfl (lv_at hl 1 rfl) ?_
    refine lv_iconst (v := 2) hx hb dMod_count_45 (by decide) ?_
    refine lv_icmp_ne (tgt := 56) hx hb dMod_count_46 (by decide) (fun _ => ?_) (fun c9 => absurd c9 (by decide))
    refine lv_iload_n hx hb dMod_count_56 rfl (lv_at hl 1 rfl) ?_
    refine lv_iconst (v := 3) hx hb dMod_count_57 (by decide) ?_
    refine lv_icmp_ne (tgt := 68) hx hb dMod_count_58 (by decide) (fun _ => ?_) (fun c9 => absurd c9 (by decide))
    refine lv_iload_n hx hb dMod_count_68 rfl (lv_at hl 1 rfl) ?_
    refine lv_iconst (v := 4) hx hb dMod_count_69 (by decide) ?_
    refine lv_icmp_ne (tgt := 80) hx hb dMod_count_70 (by decide) (fun _ => ?_) (fun c9 => absurd c9 (by decide))
    refine lv_iload_n hx hb dMod_count_80 rfl (lv_at hl 1 rfl) ?_
    refine lv_iconst (v := 5) hx hb dMod_count_81 (by decide) ?_
    refine lv_icmp_ne (tgt := 92) hx hb dMod_count_82 (by decide) (fun _ => ?_) (fun c9 => absurd c9 (by decide))
    refine lv_aload_n hx hb dMod_count_92 rfl (lv_at hl 0 rfl) ?_
    refine va_get (D := D) (ci := 6) (v := .int lin) hx hb ht inMod hown hK hP 0 rfl rfl 23 (by decide) (ht _ kf_Mod_71) (fun _ h9 => h9) rfl dMod_count_93 ?_
    refine lv_if_eq (tgt := 103) hx hb dMod_count_96 (by decide) (fun c11 => ?_) (fun c11 => ?_)
    · refine lv_iconst (v := 0) hx hb dMod_count_103 (by decide) ?_
      have hP := hP.sub (ws' := [(h0, .inr (6, [.ref f1, .ref f2, .ref f3, .ref f4, .ref f5, .ref f6, .ref f7, .ref f8, .ref f9, .ref f10, .ref f11, .ref n1, .ref n2, .ref n3, .ref n4, .int sm, .int ln, .int tt, .int cm, .int dm, .int si, .int mu, .int 0, .int lin, .int oc, .int od]))]) [0] rfl
      have hD := hD.sub (ws' := [(h0, .inr (6, [.ref f1, .ref f2, .ref f3, .ref f4, .ref f5, .ref f6, .ref f7, .ref f8, .ref f9, .ref f10, .ref f11, .ref n1, .ref n2, .ref n3, .ref n4, .int sm, .int ln, .int tt, .int cm, .int dm, .int si, .int mu, .int 0, .int lin, .int oc, .int od]))]) [0] (by decide) rfl
      exact e_i () hx hb hr hlk hK hP hD hS rfl c11.symm dMod_count_104
    · refine lv_iconst (v := 1) hx hb dMod_count_99 (by decide) ?_
      refine lv_goto (tgt := 104) hx hb dMod_count_100 (by decide) ?_
      have hP := hP.sub (ws' := [(h0, .inr (6, [.ref f1, .ref f2, .ref f3, .ref f4, .ref f5, .ref f6, .ref f7, .ref f8, .ref f9, .ref f10, .ref f11, .ref n1, .ref n2, .ref n3, .ref n4, .int sm, .int ln, .int tt, .int cm, .int dm, .int si, .int mu, .int 0, .int lin, .int oc, .int od]))]) [0] rfl
      have hD := hD.sub (ws' := [(h0, .inr (6, [.ref f1, .ref f2, .ref f3, .ref f4, .ref f5, .ref f6, .ref f7, .ref f8, .ref f9, .ref f10, .ref f11, .ref n1, .ref n2, .ref n3, .ref n4, .int sm, .int ln, .int tt, .int cm, .int dm, .int si, .int mu, .int 0, .int lin, .int oc, .int od]))]) [0] (by decide) rfl
      exact e_i () hx hb hr hlk hK hP hD hS rfl (hlb.resolve_left c11).symm dMod_count_104
  · exact absurd c4 (by decide)

set_option maxHeartbeats 4000000 in
set_option maxRecDepth 100000 in
theorem c_Mod_count_X (l : Launch) (D : va_G) (cF cI : ClassId) (sz : Nat) (h0 f1 f2 f3 f4 f5 f6 f7 f8 f9 f10 f11 n1 n2 n3 n4 : Nat) (sm : Int32) (ln : Int32) (tt : Int32) (cm : Int32) (dm : Int32) (si : Int32) (mu : Int32) (th : Int32) (lin : Int32) (oc : Int32) (od : Int32) (k : Int32) (hk : m_in k 0 6 = 0) : Met l yMod_count (.code yMod_count cMod_count 2 (some .int) :: TB) ({ frames := 1, cells := 0, slots := 0, locals := 22 }) (va_Pc [.ref h0, .int k] (cPre D cF cI [(h0, .inr (6, [.ref f1, .ref f2, .ref f3, .ref f4, .ref f5, .ref f6, .ref f7, .ref f8, .ref f9, .ref f10, .ref f11, .ref n1, .ref n2, .ref n3, .ref n4, .int sm, .int ln, .int tt, .int cm, .int dm, .int si, .int mu, .int th, .int lin, .int oc, .int od]))] sz)) (va_Qi (fun (r : Int32) (_ : Unit) => r = 0) (cB D cF cI (va_A [(h0, .inr (6, [.ref f1, .ref f2, .ref f3, .ref f4, .ref f5, .ref f6, .ref f7, .ref f8, .ref f9, .ref f10, .ref f11, .ref n1, .ref n2, .ref n3, .ref n4, .int sm, .int ln, .int tt, .int cm, .int dm, .int si, .int mu, .int th, .int lin, .int oc, .int od]))] sz) (fun _ : Unit => [(h0, .inr (6, [.ref f1, .ref f2, .ref f3, .ref f4, .ref f5, .ref f6, .ref f7, .ref f8, .ref f9, .ref f10, .ref f11, .ref n1, .ref n2, .ref n3, .ref n4, .int sm, .int ln, .int tt, .int cm, .int dm, .int si, .int mu, .int 1, .int lin, .int oc, .int od]))])) (va_A [(h0, .inr (6, [.ref f1, .ref f2, .ref f3, .ref f4, .ref f5, .ref f6, .ref f7, .ref f8, .ref f9, .ref f10, .ref f11, .ref n1, .ref n2, .ref n3, .ref n4, .int sm, .int ln, .int tt, .int cm, .int dm, .int si, .int mu, .int th, .int lin, .int oc, .int od]))] sz)) 0 0 (va_A [(h0, .inr (6, [.ref f1, .ref f2, .ref f3, .ref f4, .ref f5, .ref f6, .ref f7, .ref f8, .ref f9, .ref f10, .ref f11, .ref n1, .ref n2, .ref n3, .ref n4, .int sm, .int ln, .int tt, .int cm, .int dm, .int si, .int mu, .int th, .int lin, .int oc, .int od]))] sz) := by
  refine c_ofW (own := RMod) (by decide) rfl (fun p e s m below meth c hsz hx hb hr hml hown ht hlk hin hP hK hD hmb => ?_)
  subst hsz
  generalize hAe : va_A [(h0, .inr (6, [.ref f1, .ref f2, .ref f3, .ref f4, .ref f5, .ref f6, .ref f7, .ref f8, .ref f9, .ref f10, .ref f11, .ref n1, .ref n2, .ref n3, .ref n4, .int sm, .int ln, .int tt, .int cm, .int dm, .int si, .int mu, .int th, .int lin, .int oc, .int od]))] s.heap.size = A at hD ⊢
  have hA : ∀ q : Nat, s.heap.size ≤ q → A q := fun q h => by rw [← hAe]; exact Or.inr h
  have hS : va_S A s.heap s.heap [] := va_S.rf
  have hl := lv_entry ([.ref h0, .int k]) (n := 2) (Nat.le_of_ble_eq_true rfl)
  rw [lg_entry_eq]
  generalize (lg_sl ([.ref h0, .int k]) ++ List.replicate (2 - (lg_sl ([.ref h0, .int k])).length) Slot.unset).toArray = ls at hl ⊢
  have hl : lv_has ls 2 [(0, .ref h0), (1, .int k)] := hl
  refine lv_iload_n hx hb dMod_count_0 rfl (lv_at hl 1 rfl) ?_
  refine lv_iconst (v := 0) hx hb dMod_count_1 (by decide) ?_
  refine lv_bipush (v := 6) hx hb dMod_count_2 (by decide) ?_
  refine q_i (wc := []) (wr := [(h0, .inr (6, [.ref f1, .ref f2, .ref f3, .ref f4, .ref f5, .ref f6, .ref f7, .ref f8, .ref f9, .ref f10, .ref f11, .ref n1, .ref n2, .ref n3, .ref n4, .int sm, .int ln, .int tt, .int cm, .int dm, .int si, .int mu, .int th, .int lin, .int oc, .int od]))]) [] [0] hK hP hD hS hA rfl rfl (by decide) (by decide) (va_runS (As := [.int k, .int 0, .int 6]) (rest := []) ⟨hx, hb, hml, hown, ht⟩ (c_Mod_in l D cF cI s.heap.size k 0 6) (va_cwS 3 ht (g_S km_Mod_141 ks_Mod_in kI_Mod kc_Mod_in) rfl rfl rfl (by decide +kernel) ⟨Nat.le_of_ble_eq_true rfl, Nat.le_of_ble_eq_true rfl⟩) (cPre_S hK hmb (hP.sub (ws' := []) [] rfl) (hD.sub (ws' := []) [] (by decide) rfl)) rfl rfl hl.1 rfl (lv_room (Nat.le_of_ble_eq_true rfl)) dMod_count_4 ⟨Nat.le_of_ble_eq_true rfl, Nat.le_of_ble_eq_true rfl⟩) (fun r1 u2 H locs w3 hP hD hS => ?_)
  subst w3
  have hP : va_P D vwCl [(h0, .inr (6, [.ref f1, .ref f2, .ref f3, .ref f4, .ref f5, .ref f6, .ref f7, .ref f8, .ref f9, .ref f10, .ref f11, .ref n1, .ref n2, .ref n3, .ref n4, .int sm, .int ln, .int tt, .int cm, .int dm, .int si, .int mu, .int th, .int lin, .int oc, .int od]))] H := hP
  have hD : va_D A [(h0, .inr (6, [.ref f1, .ref f2, .ref f3, .ref f4, .ref f5, .ref f6, .ref f7, .ref f8, .ref f9, .ref f10, .ref f11, .ref n1, .ref n2, .ref n3, .ref n4, .int sm, .int ln, .int tt, .int cm, .int dm, .int si, .int mu, .int th, .int lin, .int oc, .int od]))] := hD
  refine lv_if_ne (tgt := 16) hx hb dMod_count_7 (by decide) (fun c4 => ?_) (fun c4 => ?_)
  · exact absurd hk c4
  · refine lv_aload_n hx hb dMod_count_10 rfl (lv_at hl 0 rfl) ?_
    refine lv_iconst (v := 1) hx hb dMod_count_11 (by decide) ?_
    refine q_i (wc := [(h0, .inr (6, [.ref f1, .ref f2, .ref f3, .ref f4, .ref f5, .ref f6, .ref f7, .ref f8, .ref f9, .ref f10, .ref f11, .ref n1, .ref n2, .ref n3, .ref n4, .int sm, .int ln, .int tt, .int cm, .int dm, .int si, .int mu, .int th, .int lin, .int oc, .int od]))]) (wr := []) [0] [] hK hP hD hS hA rfl rfl (by decide) (by decide) (va_runV (As := [.int 1]) (rest := []) ⟨hx, hb, hml, hown, ht⟩ (c_Mod_fail l D cF cI H.size h0 f1 f2 f3 f4 f5 f6 f7 f8 f9 f10 f11 n1 n2 n3 n4 sm ln tt cm dm si mu th lin oc od 1) (cwV 1 ht (g_V km_Mod_64 ki_Mod_fail kv_Mod_fail kI_Mod kc_Mod_fail) rfl rfl rfl (by decide +kernel) ⟨Nat.le_of_ble_eq_true rfl, Nat.le_of_ble_eq_true rfl⟩) (cPre_V (ci := 6) (q0 := 0) hK hmb (hP.sub (ws' := [(h0, .inr (6, [.ref f1, .ref f2, .ref f3, .ref f4, .ref f5, .ref f6, .ref f7, .ref f8, .ref f9, .ref f10, .ref f11, .ref n1, .ref n2, .ref n3, .ref n4, .int sm, .int ln, .int tt, .int cm, .int dm, .int si, .int mu, .int th, .int lin, .int oc, .int od]))]) [0] rfl) (hD.sub (ws' := [(h0, .inr (6, [.ref f1, .ref f2, .ref f3, .ref f4, .ref f5, .ref f6, .ref f7, .ref f8, .ref f9, .ref f10, .ref f11, .ref n1, .ref n2, .ref n3, .ref n4, .int sm, .int ln, .int tt, .int cm, .int dm, .int si, .int mu, .int th, .int lin, .int oc, .int od]))]) [0] (by decide) rfl) rfl rfl) rfl rfl hl.1 rfl (lv_room (Nat.le_of_ble_eq_true rfl)) dMod_count_12 ⟨Nat.le_of_ble_eq_true rfl, Nat.le_of_ble_eq_true rfl⟩) (fun r5 u6 H locs w7 hP hD hS => ?_)
    subst w7
    have hP : va_P D vwCl [(h0, .inr (6, [.ref f1, .ref f2, .ref f3, .ref f4, .ref f5, .ref f6, .ref f7, .ref f8, .ref f9, .ref f10, .ref f11, .ref n1, .ref n2, .ref n3, .ref n4, .int sm, .int ln, .int tt, .int cm, .int dm, .int si, .int mu, .int 1, .int lin, .int oc, .int od]))] H := hP
    have hD : va_D A [(h0, .inr (6, [.ref f1, .ref f2, .ref f3, .ref f4, .ref f5, .ref f6, .ref f7, .ref f8, .ref f9, .ref f10, .ref f11, .ref n1, .ref n2, .ref n3, .ref n4, .int sm, .int ln, .int tt, .int cm, .int dm, .int si, .int mu, .int 1, .int lin, .int oc, .int od]))] := hD
    have hP := hP.sub (ws' := [(h0, .inr (6, [.ref f1, .ref f2, .ref f3, .ref f4, .ref f5, .ref f6, .ref f7, .ref f8, .ref f9, .ref f10, .ref f11, .ref n1, .ref n2, .ref n3, .ref n4, .int sm, .int ln, .int tt, .int cm, .int dm, .int si, .int mu, .int 1, .int lin, .int oc, .int od]))]) [0] rfl
    have hD := hD.sub (ws' := [(h0, .inr (6, [.ref f1, .ref f2, .ref f3, .ref f4, .ref f5, .ref f6, .ref f7, .ref f8, .ref f9, .ref f10, .ref f11, .ref n1, .ref n2, .ref n3, .ref n4, .int sm, .int ln, .int tt, .int cm, .int dm, .int si, .int mu, .int 1, .int lin, .int oc, .int od]))]) [0] (by decide) rfl
    exact e_i () hx hb hr hlk hK hP hD hS rfl rfl dMod_count_15
