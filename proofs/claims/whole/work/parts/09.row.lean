/-! SMALL FUNCTIONS OF FLOATS AND INTS, AS THE CODE HAS THEM -/
def f_uns (v : UInt32) : UInt32 := if 0 ≤ Op.cmpValue (FP.fcmp v FP.fconst0) .g then v else FP.fneg v
def f_gr (x y : UInt32) : UInt32 := if Op.cmpValue (FP.fcmp x y) .l < 0 then y else x
def f_clip (v : UInt32) : UInt32 := if 0 ≤ Op.cmpValue (FP.fcmp v 3338665984) .g then (if Op.cmpValue (FP.fcmp v 1191181824) .l ≤ 0 then v else 1191181824) else 3338665984
def f_quo (x y : UInt32) : UInt32 := if Op.cmpValue (FP.fcmp y FP.fconst0) .l = 0 then FP.fconst0 else FP.fdiv x y
def f_mid (v : UInt32) : UInt32 := if 0 ≤ Op.cmpValue (FP.fcmp v FP.fconst0) .g then FP.fadd v 1056964608 else FP.fsub v 1056964608
def i_clamp (lo hi x : Int32) : Int32 := if lo < (if x < hi then x else hi) then (if x < hi then x else hi) else lo
def f_rnd (v : UInt32) (lo hi : Int32) : Int32 := i_clamp lo hi (FP.f2i (f_mid v))
def r_has (rs k : Int32) : Int32 := if k < 0 then 0 else if rs ≤ k then 0 else 1
def r_next (f : Nat → Int32) (rs rd k : Int32) : Int32 := if r_has rs (rd + k) = 0 then 0 else f (rd + k).toNatClampNeg
def r_mark (b : Int32) : Int32 := if (b &&& (-129)) - 16 < 0 then 0 else if 15 < (b &&& (-129)) - 16 then 0 else 1
def r_size (f : Nat → Int32) (rs rd : Int32) : Int32 := if r_mark (r_next f rs rd 0) = 0 then 1 else 14
theorem r_has_in {rs k : Int32} (h : ¬ r_has rs k = 0) (hr : rs ≤ 120) : vp_in k 120 := by
  unfold r_has at h
  split at h
  · exact absurd rfl h
  · split at h
    · exact absurd rfl h
    · rw [vp_in_iff]
      rename_i h1 h2
      rw [Int32.lt_iff_toInt_lt] at h1
      rw [Int32.le_iff_toInt_le] at h2 hr
      have e1 : (0 : Int32).toInt = 0 := rfl
      have e2 : (120 : Int32).toInt = 120 := rfl
      omega
theorem lt_up {i N : Nat} {M : Int32} (hM : M = nI N) (h : i < N) (hN : N < 2147483648) : ¬ M ≤ nI i := by subst hM; exact nI_ge h hN
theorem z_has (rs k : Int32) : narrow .boolean (.int (r_has rs k)) = .int (r_has rs k) := by unfold r_has; split <;> (try split) <;> rfl
theorem z_mark (b : Int32) : narrow .boolean (.int (r_mark b)) = .int (r_mark b) := by unfold r_mark; split <;> (try split) <;> rfl

set_option maxHeartbeats 4000000 in
set_option maxRecDepth 100000 in
theorem c_VF_unsigned (l : Launch) (D : va_G) (cF cI : ClassId) (sz : Nat) (v : UInt32) : Met l yVF_unsigned (.code yVF_unsigned cVF_unsigned 1 (some .float) :: TB) ({ frames := 0, cells := 0, slots := 0, locals := 0 }) (va_Pc [.float v] (cPre D cF cI [] sz)) (va_Qf (fun (r : UInt32) (_ : Unit) => r = f_uns v) (cB D cF cI (va_A [] sz) (fun _ : Unit => [])) (va_A [] sz)) 0 0 (va_A [] sz) := by
  refine c_ofW (own := RVF) (by decide) rfl (fun p e s m below meth c hsz hx hb hr hml hown ht hlk hin hP hK hD hmb => ?_)
  subst hsz
  generalize hAe : va_A [] s.heap.size = A at hD ⊢
  have hA : ∀ q : Nat, s.heap.size ≤ q → A q := fun q h => by rw [← hAe]; exact Or.inr h
  have hS : va_S A s.heap s.heap [] := va_S.rf
  have hl := lv_entry ([.float v]) (n := 1) (Nat.le_of_ble_eq_true rfl)
  rw [lg_entry_eq]
  generalize (lg_sl ([.float v]) ++ List.replicate (1 - (lg_sl ([.float v])).length) Slot.unset).toArray = ls at hl ⊢
  have hl : lv_has ls 1 [(0, .float v)] := hl
  refine lv_fload_n hx hb dVF_unsigned_0 rfl (lv_at hl 0 rfl) ?_
  refine lv_fconst0 hx hb dVF_unsigned_1 ?_
  refine lv_fcmp hx hb dVF_unsigned_2 ?_
  refine lv_if_ge (tgt := 11) hx hb dVF_unsigned_3 (by decide) (fun c1 => ?_) (fun c1 => ?_)
  · refine lv_fload_n hx hb dVF_unsigned_11 rfl (lv_at hl 0 rfl) ?_
    have hP := hP.sub (ws' := []) [] rfl
    have hD := hD.sub (ws' := []) [] (by decide) rfl
    exact e_f () hx hb hr hlk hK hP hD hS rfl (by unfold f_uns; rw [if_pos c1]) dVF_unsigned_12
  · refine lv_fload_n hx hb dVF_unsigned_6 rfl (lv_at hl 0 rfl) ?_
    refine lv_fneg hx hb dVF_unsigned_7 ?_
    refine lv_goto (tgt := 12) hx hb dVF_unsigned_8 (by decide) ?_
    have hP := hP.sub (ws' := []) [] rfl
    have hD := hD.sub (ws' := []) [] (by decide) rfl
    exact e_f () hx hb hr hlk hK hP hD hS rfl (by unfold f_uns; rw [if_neg c1]) dVF_unsigned_12

set_option maxHeartbeats 4000000 in
set_option maxRecDepth 100000 in
theorem c_VF_greater (l : Launch) (D : va_G) (cF cI : ClassId) (sz : Nat) (v : UInt32) (w : UInt32) : Met l yVF_greater (.code yVF_greater cVF_greater 2 (some .float) :: TB) ({ frames := 0, cells := 0, slots := 0, locals := 0 }) (va_Pc [.float v, .float w] (cPre D cF cI [] sz)) (va_Qf (fun (r : UInt32) (_ : Unit) => r = f_gr v w) (cB D cF cI (va_A [] sz) (fun _ : Unit => [])) (va_A [] sz)) 0 0 (va_A [] sz) := by
  refine c_ofW (own := RVF) (by decide) rfl (fun p e s m below meth c hsz hx hb hr hml hown ht hlk hin hP hK hD hmb => ?_)
  subst hsz
  generalize hAe : va_A [] s.heap.size = A at hD ⊢
  have hA : ∀ q : Nat, s.heap.size ≤ q → A q := fun q h => by rw [← hAe]; exact Or.inr h
  have hS : va_S A s.heap s.heap [] := va_S.rf
  have hl := lv_entry ([.float v, .float w]) (n := 2) (Nat.le_of_ble_eq_true rfl)
  rw [lg_entry_eq]
  generalize (lg_sl ([.float v, .float w]) ++ List.replicate (2 - (lg_sl ([.float v, .float w])).length) Slot.unset).toArray = ls at hl ⊢
  have hl : lv_has ls 2 [(0, .float v), (1, .float w)] := hl
  refine lv_fload_n hx hb dVF_greater_0 rfl (lv_at hl 0 rfl) ?_
  refine lv_fload_n hx hb dVF_greater_1 rfl (lv_at hl 1 rfl) ?_
  refine lv_fcmp hx hb dVF_greater_2 ?_
  refine lv_if_lt (tgt := 10) hx hb dVF_greater_3 (by decide) (fun c1 => ?_) (fun c1 => ?_)
  · refine lv_fload_n hx hb dVF_greater_10 rfl (lv_at hl 1 rfl) ?_
    have hP := hP.sub (ws' := []) [] rfl
    have hD := hD.sub (ws' := []) [] (by decide) rfl
    exact e_f () hx hb hr hlk hK hP hD hS rfl (by unfold f_gr; rw [if_pos c1]) dVF_greater_11
  · refine lv_fload_n hx hb dVF_greater_6 rfl (lv_at hl 0 rfl) ?_
    refine lv_goto (tgt := 11) hx hb dVF_greater_7 (by decide) ?_
    have hP := hP.sub (ws' := []) [] rfl
    have hD := hD.sub (ws' := []) [] (by decide) rfl
    exact e_f () hx hb hr hlk hK hP hD hS rfl (by unfold f_gr; rw [if_neg c1]) dVF_greater_11

set_option maxHeartbeats 4000000 in
set_option maxRecDepth 100000 in
theorem c_VF_clipped (l : Launch) (D : va_G) (cF cI : ClassId) (sz : Nat) (v : UInt32) : Met l yVF_clipped (.code yVF_clipped cVF_clipped 1 (some .float) :: TB) ({ frames := 0, cells := 0, slots := 0, locals := 0 }) (va_Pc [.float v] (cPre D cF cI [] sz)) (va_Qf (fun (r : UInt32) (_ : Unit) => r = f_clip v) (cB D cF cI (va_A [] sz) (fun _ : Unit => [])) (va_A [] sz)) 0 0 (va_A [] sz) := by
  refine c_ofW (own := RVF) (by decide) rfl (fun p e s m below meth c hsz hx hb hr hml hown ht hlk hin hP hK hD hmb => ?_)
  subst hsz
  generalize hAe : va_A [] s.heap.size = A at hD ⊢
  have hA : ∀ q : Nat, s.heap.size ≤ q → A q := fun q h => by rw [← hAe]; exact Or.inr h
  have hS : va_S A s.heap s.heap [] := va_S.rf
  have hl := lv_entry ([.float v]) (n := 1) (Nat.le_of_ble_eq_true rfl)
  rw [lg_entry_eq]
  generalize (lg_sl ([.float v]) ++ List.replicate (1 - (lg_sl ([.float v])).length) Slot.unset).toArray = ls at hl ⊢
  have hl : lv_has ls 1 [(0, .float v)] := hl
  refine lv_fload_n hx hb dVF_clipped_0 rfl (lv_at hl 0 rfl) ?_
  refine lv_ldcf (v := 3338665984) hx hb hown (ht _ kk_VF_192) dVF_clipped_1 ?_
  refine lv_fcmp hx hb dVF_clipped_3 ?_
  refine lv_if_ge (tgt := 10) hx hb dVF_clipped_4 (by decide) (fun c1 => ?_) (fun c1 => ?_)
  · refine lv_fload_n hx hb dVF_clipped_10 rfl (lv_at hl 0 rfl) ?_
    refine lv_ldcf (v := 1191181824) hx hb hown (ht _ kk_VF_193) dVF_clipped_11 ?_
    refine lv_fcmp hx hb dVF_clipped_13 ?_
    refine lv_if_le (tgt := 22) hx hb dVF_clipped_14 (by decide) (fun c2 => ?_) (fun c2 => ?_)
    · refine lv_fload_n hx hb dVF_clipped_22 rfl (lv_at hl 0 rfl) ?_
      have hP := hP.sub (ws' := []) [] rfl
      have hD := hD.sub (ws' := []) [] (by decide) rfl
      exact e_f () hx hb hr hlk hK hP hD hS rfl (by unfold f_clip; rw [if_pos c1, if_pos c2]) dVF_clipped_23
    · refine lv_ldcf (v := 1191181824) hx hb hown (ht _ kk_VF_193) dVF_clipped_17 ?_
      refine lv_goto (tgt := 23) hx hb dVF_clipped_19 (by decide) ?_
      have hP := hP.sub (ws' := []) [] rfl
      have hD := hD.sub (ws' := []) [] (by decide) rfl
      exact e_f () hx hb hr hlk hK hP hD hS rfl (by unfold f_clip; rw [if_pos c1, if_neg c2]) dVF_clipped_23
  · refine lv_ldcf (v := 3338665984) hx hb hown (ht _ kk_VF_192) dVF_clipped_7 ?_
    have hP := hP.sub (ws' := []) [] rfl
    have hD := hD.sub (ws' := []) [] (by decide) rfl
    exact e_f () hx hb hr hlk hK hP hD hS rfl (by unfold f_clip; rw [if_neg c1]) dVF_clipped_9

set_option maxHeartbeats 4000000 in
set_option maxRecDepth 100000 in
theorem c_VF_quotient (l : Launch) (D : va_G) (cF cI : ClassId) (sz : Nat) (v : UInt32) (w : UInt32) (hn : ¬ Op.cmpValue (FP.fcmp w FP.fconst0) .l = 0 → vf_n32 (FP.fdiv v w)) : Met l yVF_quotient (.code yVF_quotient cVF_quotient 2 (some .float) :: TB) ({ frames := 0, cells := 0, slots := 0, locals := 0 }) (va_Pc [.float v, .float w] (cPre D cF cI [] sz)) (va_Qf (fun (r : UInt32) (_ : Unit) => r = f_quo v w) (cB D cF cI (va_A [] sz) (fun _ : Unit => [])) (va_A [] sz)) 0 0 (va_A [] sz) := by
  refine c_ofW (own := RVF) (by decide) rfl (fun p e s m below meth c hsz hx hb hr hml hown ht hlk hin hP hK hD hmb => ?_)
  subst hsz
  generalize hAe : va_A [] s.heap.size = A at hD ⊢
  have hA : ∀ q : Nat, s.heap.size ≤ q → A q := fun q h => by rw [← hAe]; exact Or.inr h
  have hS : va_S A s.heap s.heap [] := va_S.rf
  have hl := lv_entry ([.float v, .float w]) (n := 2) (Nat.le_of_ble_eq_true rfl)
  rw [lg_entry_eq]
  generalize (lg_sl ([.float v, .float w]) ++ List.replicate (2 - (lg_sl ([.float v, .float w])).length) Slot.unset).toArray = ls at hl ⊢
  have hl : lv_has ls 2 [(0, .float v), (1, .float w)] := hl
  refine lv_fload_n hx hb dVF_quotient_0 rfl (lv_at hl 1 rfl) ?_
  refine lv_fconst0 hx hb dVF_quotient_1 ?_
  refine lv_fcmp hx hb dVF_quotient_2 ?_
  refine lv_if_ne (tgt := 10) hx hb dVF_quotient_3 (by decide) (fun c1 => ?_) (fun c1 => ?_)
  · refine lv_fload_n hx hb dVF_quotient_10 rfl (lv_at hl 0 rfl) ?_
    refine lv_fload_n hx hb dVF_quotient_11 rfl (lv_at hl 1 rfl) ?_
    refine lv_fdiv hx hb dVF_quotient_12 (hn c1) ?_
    have hP := hP.sub (ws' := []) [] rfl
    have hD := hD.sub (ws' := []) [] (by decide) rfl
    exact e_f () hx hb hr hlk hK hP hD hS rfl (by unfold f_quo; rw [if_neg c1]) dVF_quotient_13
  · refine lv_fconst0 hx hb dVF_quotient_6 ?_
    refine lv_goto (tgt := 13) hx hb dVF_quotient_7 (by decide) ?_
    have hP := hP.sub (ws' := []) [] rfl
    have hD := hD.sub (ws' := []) [] (by decide) rfl
    exact e_f () hx hb hr hlk hK hP hD hS rfl (by unfold f_quo; rw [if_pos c1]) dVF_quotient_13

set_option maxHeartbeats 4000000 in
set_option maxRecDepth 100000 in
theorem c_VF_rounded (l : Launch) (D : va_G) (cF cI : ClassId) (sz : Nat) (v : UInt32) (lo : Int32) (hi : Int32) (hn1 : vf_n32 (FP.fsub v 1056964608)) (hn2 : vf_n32 (FP.fadd v 1056964608)) : Met l yVF_rounded (.code yVF_rounded cVF_rounded 4 (some .int) :: TB) ({ frames := 1, cells := 0, slots := 0, locals := 21 }) (va_Pc [.float v, .int lo, .int hi] (cPre D cF cI [] sz)) (va_Qi (fun (r : Int32) (_ : Unit) => r = f_rnd v lo hi) (cB D cF cI (va_A [] sz) (fun _ : Unit => [])) (va_A [] sz)) 0 0 (va_A [] sz) := by
  refine c_ofW (own := RVF) (by decide) rfl (fun p e s m below meth c hsz hx hb hr hml hown ht hlk hin hP hK hD hmb => ?_)
  subst hsz
  generalize hAe : va_A [] s.heap.size = A at hD ⊢
  have hA : ∀ q : Nat, s.heap.size ≤ q → A q := fun q h => by rw [← hAe]; exact Or.inr h
  have hS : va_S A s.heap s.heap [] := va_S.rf
  have hl := lv_entry ([.float v, .int lo, .int hi]) (n := 4) (Nat.le_of_ble_eq_true rfl)
  rw [lg_entry_eq]
  generalize (lg_sl ([.float v, .int lo, .int hi]) ++ List.replicate (4 - (lg_sl ([.float v, .int lo, .int hi])).length) Slot.unset).toArray = ls at hl ⊢
  have hl : lv_has ls 4 [(0, .float v), (1, .int lo), (2, .int hi)] := hl
  refine lv_fload_n hx hb dVF_rounded_0 rfl (lv_at hl 0 rfl) ?_
  refine lv_fconst0 hx hb dVF_rounded_1 ?_
  refine lv_fcmp hx hb dVF_rounded_2 ?_
  refine lv_if_ge (tgt := 13) hx hb dVF_rounded_3 (by decide) (fun c1 => ?_) (fun c1 => ?_)
  · refine lv_fload_n hx hb dVF_rounded_13 rfl (lv_at hl 0 rfl) ?_
    refine lv_ldcf (v := 1056964608) hx hb hown (ht _ kk_VF_194) dVF_rounded_14 ?_
    refine lv_fadd hx hb dVF_rounded_16 hn2 ?_
    refine lv_f2i hx hb dVF_rounded_17 ?_
    refine lv_istore_n (lv' := [(3, .int (FP.f2i (FP.fadd v 1056964608))), (0, .float v), (1, .int lo), (2, .int hi)]) hx hb dVF_rounded_18 rfl hl (by decide) rfl (fun ls hl => ?_)
    refine lv_iload_n hx hb dVF_rounded_19 rfl (lv_at hl 2 rfl) ?_
    refine lv_iload_n hx hb dVF_rounded_20 rfl (lv_at hl 3 rfl) ?_
    refine lv_iload_n hx hb dVF_rounded_21 rfl (lv_at hl 0 rfl) ?_
    refine va_mmin hx hb (hml.trans hl.1.symm) hown (ht _ km_VF_195) (ht _ ks_Math_min) (ht _ kI_Mat) (ht _ kc_Math_min) (Nat.le_of_ble_eq_true rfl) (Nat.le_of_ble_eq_true rfl) (Nat.le_of_ble_eq_true rfl) (Nat.le_of_ble_eq_true rfl) dVF_rounded_22 ?_
    refine va_mmax hx hb (hml.trans hl.1.symm) hown (ht _ km_VF_201) (ht _ ks_Math_max) (ht _ kI_Mat) (ht _ kc_Math_max) (Nat.le_of_ble_eq_true rfl) (Nat.le_of_ble_eq_true rfl) (Nat.le_of_ble_eq_true rfl) (Nat.le_of_ble_eq_true rfl) dVF_rounded_25 ?_
    have hP := hP.sub (ws' := []) [] rfl
    have hD := hD.sub (ws' := []) [] (by decide) rfl
    exact e_i () hx hb hr hlk hK hP hD hS rfl (by unfold f_rnd f_mid i_clamp; rw [if_pos c1]) dVF_rounded_28
  · refine lv_fload_n hx hb dVF_rounded_6 rfl (lv_at hl 0 rfl) ?_
    refine lv_ldcf (v := 1056964608) hx hb hown (ht _ kk_VF_194) dVF_rounded_7 ?_
    refine lv_fsub hx hb dVF_rounded_9 hn1 ?_
    refine lv_goto (tgt := 17) hx hb dVF_rounded_10 (by decide) ?_
    refine lv_f2i hx hb dVF_rounded_17 ?_
    refine lv_istore_n (lv' := [(3, .int (FP.f2i (FP.fsub v 1056964608))), (0, .float v), (1, .int lo), (2, .int hi)]) hx hb dVF_rounded_18 rfl hl (by decide) rfl (fun ls hl => ?_)
    refine lv_iload_n hx hb dVF_rounded_19 rfl (lv_at hl 2 rfl) ?_
    refine lv_iload_n hx hb dVF_rounded_20 rfl (lv_at hl 3 rfl) ?_
    refine lv_iload_n hx hb dVF_rounded_21 rfl (lv_at hl 0 rfl) ?_
    refine va_mmin hx hb (hml.trans hl.1.symm) hown (ht _ km_VF_195) (ht _ ks_Math_min) (ht _ kI_Mat) (ht _ kc_Math_min) (Nat.le_of_ble_eq_true rfl) (Nat.le_of_ble_eq_true rfl) (Nat.le_of_ble_eq_true rfl) (Nat.le_of_ble_eq_true rfl) dVF_rounded_22 ?_
    refine va_mmax hx hb (hml.trans hl.1.symm) hown (ht _ km_VF_201) (ht _ ks_Math_max) (ht _ kI_Mat) (ht _ kc_Math_max) (Nat.le_of_ble_eq_true rfl) (Nat.le_of_ble_eq_true rfl) (Nat.le_of_ble_eq_true rfl) (Nat.le_of_ble_eq_true rfl) dVF_rounded_25 ?_
    have hP := hP.sub (ws' := []) [] rfl
    have hD := hD.sub (ws' := []) [] (by decide) rfl
    exact e_i () hx hb hr hlk hK hP hD hS rfl (by unfold f_rnd f_mid i_clamp; rw [if_neg c1]) dVF_rounded_28

set_option maxHeartbeats 4000000 in
set_option maxRecDepth 100000 in
theorem c_Row_has (l : Launch) (D : va_G) (cF cI : ClassId) (sz : Nat) (h0 h1 : Nat) (rs : Int32) (rd : Int32) (k : Int32) : Met l yRow_has (.code yRow_has cRow_has 2 (some .boolean) :: TB) ({ frames := 0, cells := 0, slots := 0, locals := 0 }) (va_Pc [.ref h0, .int k] (cPre D cF cI [(h0, .inr (0, [.ref h1, .int rs, .int rd]))] sz)) (va_Qi (fun (r : Int32) (_ : Unit) => r = r_has rs k) (cB D cF cI (va_A [(h0, .inr (0, [.ref h1, .int rs, .int rd]))] sz) (fun _ : Unit => [(h0, .inr (0, [.ref h1, .int rs, .int rd]))])) (va_A [(h0, .inr (0, [.ref h1, .int rs, .int rd]))] sz)) 0 0 (va_A [(h0, .inr (0, [.ref h1, .int rs, .int rd]))] sz) := by
  refine c_ofW (own := RRow) (by decide) rfl (fun p e s m below meth c hsz hx hb hr hml hown ht hlk hin hP hK hD hmb => ?_)
  subst hsz
  generalize hAe : va_A [(h0, .inr (0, [.ref h1, .int rs, .int rd]))] s.heap.size = A at hD ⊢
  have hA : ∀ q : Nat, s.heap.size ≤ q → A q := fun q h => by rw [← hAe]; exact Or.inr h
  have hS : va_S A s.heap s.heap [] := va_S.rf
  have hl := lv_entry ([.ref h0, .int k]) (n := 2) (Nat.le_of_ble_eq_true rfl)
  rw [lg_entry_eq]
  generalize (lg_sl ([.ref h0, .int k]) ++ List.replicate (2 - (lg_sl ([.ref h0, .int k])).length) Slot.unset).toArray = ls at hl ⊢
  have hl : lv_has ls 2 [(0, .ref h0), (1, .int k)] := hl
  refine lv_iload_n hx hb dRow_has_0 rfl (lv_at hl 1 rfl) ?_
  refine lv_if_lt (tgt := 16) hx hb dRow_has_1 (by decide) (fun c1 => ?_) (fun c1 => ?_)
  · refine lv_iconst (v := 0) hx hb dRow_has_16 (by decide) ?_
    have hP := hP.sub (ws' := [(h0, .inr (0, [.ref h1, .int rs, .int rd]))]) [0] rfl
    have hD := hD.sub (ws' := [(h0, .inr (0, [.ref h1, .int rs, .int rd]))]) [0] (by decide) rfl
    exact e_z () hx hb hr hlk hK hP hD hS rfl rfl (by unfold r_has; rw [if_pos c1]) dRow_has_17
  · refine lv_iload_n hx hb dRow_has_4 rfl (lv_at hl 1 rfl) ?_
    refine lv_aload_n hx hb dRow_has_5 rfl (lv_at hl 0 rfl) ?_
    refine va_get (D := D) (ci := 0) (v := .int rs) hx hb ht inRow hown hK hP 0 rfl rfl 1 (by decide) (ht _ kf_Row_15) (fun _ h9 => h9) rfl dRow_has_6 ?_
    refine lv_icmp_ge (tgt := 16) hx hb dRow_has_9 (by decide) (fun c2 => ?_) (fun c2 => ?_)
    · refine lv_iconst (v := 0) hx hb dRow_has_16 (by decide) ?_
      have hP := hP.sub (ws' := [(h0, .inr (0, [.ref h1, .int rs, .int rd]))]) [0] rfl
      have hD := hD.sub (ws' := [(h0, .inr (0, [.ref h1, .int rs, .int rd]))]) [0] (by decide) rfl
      exact e_z () hx hb hr hlk hK hP hD hS rfl rfl (by unfold r_has; rw [if_neg c1, if_pos c2]) dRow_has_17
    · refine lv_iconst (v := 1) hx hb dRow_has_12 (by decide) ?_
      refine lv_goto (tgt := 17) hx hb dRow_has_13 (by decide) ?_
      have hP := hP.sub (ws' := [(h0, .inr (0, [.ref h1, .int rs, .int rd]))]) [0] rfl
      have hD := hD.sub (ws' := [(h0, .inr (0, [.ref h1, .int rs, .int rd]))]) [0] (by decide) rfl
      exact e_z () hx hb hr hlk hK hP hD hS rfl rfl (by unfold r_has; rw [if_neg c1, if_neg c2]) dRow_has_17

set_option maxHeartbeats 4000000 in
set_option maxRecDepth 100000 in
theorem c_Row_room (l : Launch) (D : va_G) (cF cI : ClassId) (sz : Nat) (h0 h1 : Nat) (rs : Int32) (rd : Int32) : Met l yRow_room (.code yRow_room cRow_room 1 (some .int) :: TB) ({ frames := 0, cells := 0, slots := 0, locals := 0 }) (va_Pc [.ref h0] (cPre D cF cI [(h0, .inr (0, [.ref h1, .int rs, .int rd]))] sz)) (va_Qi (fun (r : Int32) (_ : Unit) => r = 120 - rs) (cB D cF cI (va_A [(h0, .inr (0, [.ref h1, .int rs, .int rd]))] sz) (fun _ : Unit => [(h0, .inr (0, [.ref h1, .int rs, .int rd]))])) (va_A [(h0, .inr (0, [.ref h1, .int rs, .int rd]))] sz)) 0 0 (va_A [(h0, .inr (0, [.ref h1, .int rs, .int rd]))] sz) := by
  refine c_ofW (own := RRow) (by decide) rfl (fun p e s m below meth c hsz hx hb hr hml hown ht hlk hin hP hK hD hmb => ?_)
  subst hsz
  generalize hAe : va_A [(h0, .inr (0, [.ref h1, .int rs, .int rd]))] s.heap.size = A at hD ⊢
  have hA : ∀ q : Nat, s.heap.size ≤ q → A q := fun q h => by rw [← hAe]; exact Or.inr h
  have hS : va_S A s.heap s.heap [] := va_S.rf
  have hl := lv_entry ([.ref h0]) (n := 1) (Nat.le_of_ble_eq_true rfl)
  rw [lg_entry_eq]
  generalize (lg_sl ([.ref h0]) ++ List.replicate (1 - (lg_sl ([.ref h0])).length) Slot.unset).toArray = ls at hl ⊢
  have hl : lv_has ls 1 [(0, .ref h0)] := hl
  refine lv_bipush (v := 120) hx hb dRow_room_0 (by decide) ?_
  refine lv_aload_n hx hb dRow_room_2 rfl (lv_at hl 0 rfl) ?_
  refine va_get (D := D) (ci := 0) (v := .int rs) hx hb ht inRow hown hK hP 0 rfl rfl 1 (by decide) (ht _ kf_Row_15) (fun _ h9 => h9) rfl dRow_room_3 ?_
  refine k_isub (v := 120 - rs) hx hb dRow_room_6 rfl ?_
  have hP := hP.sub (ws' := [(h0, .inr (0, [.ref h1, .int rs, .int rd]))]) [0] rfl
  have hD := hD.sub (ws' := [(h0, .inr (0, [.ref h1, .int rs, .int rd]))]) [0] (by decide) rfl
  exact e_i () hx hb hr hlk hK hP hD hS rfl rfl dRow_room_7

set_option maxHeartbeats 4000000 in
set_option maxRecDepth 100000 in
theorem c_Row_ahead (l : Launch) (D : va_G) (cF cI : ClassId) (sz : Nat) (h0 h1 : Nat) (rs : Int32) (rd : Int32) : Met l yRow_ahead (.code yRow_ahead cRow_ahead 1 (some .int) :: TB) ({ frames := 0, cells := 0, slots := 0, locals := 0 }) (va_Pc [.ref h0] (cPre D cF cI [(h0, .inr (0, [.ref h1, .int rs, .int rd]))] sz)) (va_Qi (fun (r : Int32) (_ : Unit) => r = rs - rd) (cB D cF cI (va_A [(h0, .inr (0, [.ref h1, .int rs, .int rd]))] sz) (fun _ : Unit => [(h0, .inr (0, [.ref h1, .int rs, .int rd]))])) (va_A [(h0, .inr (0, [.ref h1, .int rs, .int rd]))] sz)) 0 0 (va_A [(h0, .inr (0, [.ref h1, .int rs, .int rd]))] sz) := by
  refine c_ofW (own := RRow) (by decide) rfl (fun p e s m below meth c hsz hx hb hr hml hown ht hlk hin hP hK hD hmb => ?_)
  subst hsz
  generalize hAe : va_A [(h0, .inr (0, [.ref h1, .int rs, .int rd]))] s.heap.size = A at hD ⊢
  have hA : ∀ q : Nat, s.heap.size ≤ q → A q := fun q h => by rw [← hAe]; exact Or.inr h
  have hS : va_S A s.heap s.heap [] := va_S.rf
  have hl := lv_entry ([.ref h0]) (n := 1) (Nat.le_of_ble_eq_true rfl)
  rw [lg_entry_eq]
  generalize (lg_sl ([.ref h0]) ++ List.replicate (1 - (lg_sl ([.ref h0])).length) Slot.unset).toArray = ls at hl ⊢
  have hl : lv_has ls 1 [(0, .ref h0)] := hl
  refine lv_aload_n hx hb dRow_ahead_0 rfl (lv_at hl 0 rfl) ?_
  refine va_get (D := D) (ci := 0) (v := .int rs) hx hb ht inRow hown hK hP 0 rfl rfl 1 (by decide) (ht _ kf_Row_15) (fun _ h9 => h9) rfl dRow_ahead_1 ?_
  refine lv_aload_n hx hb dRow_ahead_4 rfl (lv_at hl 0 rfl) ?_
  refine va_get (D := D) (ci := 0) (v := .int rd) hx hb ht inRow hown hK hP 0 rfl rfl 2 (by decide) (ht _ kf_Row_19) (fun _ h9 => h9) rfl dRow_ahead_5 ?_
  refine k_isub (v := rs - rd) hx hb dRow_ahead_8 rfl ?_
  have hP := hP.sub (ws' := [(h0, .inr (0, [.ref h1, .int rs, .int rd]))]) [0] rfl
  have hD := hD.sub (ws' := [(h0, .inr (0, [.ref h1, .int rs, .int rd]))]) [0] (by decide) rfl
  exact e_i () hx hb hr hlk hK hP hD hS rfl rfl dRow_ahead_9

set_option maxHeartbeats 4000000 in
set_option maxRecDepth 100000 in
theorem c_Row_empty (l : Launch) (D : va_G) (cF cI : ClassId) (sz : Nat) (h0 h1 : Nat) (rs : Int32) (rd : Int32) : Met l yRow_empty (.code yRow_empty cRow_empty 1 none :: TB) ({ frames := 0, cells := 0, slots := 0, locals := 0 }) (va_Pc [.ref h0] (cPre D cF cI [(h0, .inr (0, [.ref h1, .int rs, .int rd]))] sz)) (va_Qv (fun _ : Unit => True) (cB D cF cI (va_A [(h0, .inr (0, [.ref h1, .int rs, .int rd]))] sz) (fun _ : Unit => [(h0, .inr (0, [.ref h1, .int 0, .int 0]))])) (va_A [(h0, .inr (0, [.ref h1, .int rs, .int rd]))] sz)) 0 0 (va_A [(h0, .inr (0, [.ref h1, .int rs, .int rd]))] sz) := by
  refine c_ofW (own := RRow) (by decide) rfl (fun p e s m below meth c hsz hx hb hr hml hown ht hlk hin hP hK hD hmb => ?_)
  subst hsz
  generalize hAe : va_A [(h0, .inr (0, [.ref h1, .int rs, .int rd]))] s.heap.size = A at hD ⊢
  have hA : ∀ q : Nat, s.heap.size ≤ q → A q := fun q h => by rw [← hAe]; exact Or.inr h
  have hS : va_S A s.heap s.heap [] := va_S.rf
  have hl := lv_entry ([.ref h0]) (n := 1) (Nat.le_of_ble_eq_true rfl)
  rw [lg_entry_eq]
  generalize (lg_sl ([.ref h0]) ++ List.replicate (1 - (lg_sl ([.ref h0])).length) Slot.unset).toArray = ls at hl ⊢
  have hl : lv_has ls 1 [(0, .ref h0)] := hl
  refine lv_aload_n hx hb dRow_empty_0 rfl (lv_at hl 0 rfl) ?_
  refine lv_iconst (v := 0) hx hb dRow_empty_1 (by decide) ?_
  refine va_put (D := D) (ci := 0) (v := .int 0) (ty := .int) hx hb ht inRow tRow tRow_ok nRow hown hK hP hD hS 0 rfl rfl 1 (by decide) (ht _ kf_Row_15) (fun _ h9 => h9) rfl (by decide +kernel) rfl rfl (Nat.le_of_ble_eq_true rfl) dRow_empty_2 (fun H locs hP hD hS => ?_)
  have hP : va_P D vwCl [(h0, .inr (0, [.ref h1, .int 0, .int rd]))] H := hP
  have hD : va_D A [(h0, .inr (0, [.ref h1, .int 0, .int rd]))] := hD
  refine lv_aload_n hx hb dRow_empty_5 rfl (lv_at hl 0 rfl) ?_
  refine lv_iconst (v := 0) hx hb dRow_empty_6 (by decide) ?_
  refine va_put (D := D) (ci := 0) (v := .int 0) (ty := .int) hx hb ht inRow tRow tRow_ok nRow hown hK hP hD hS 0 rfl rfl 2 (by decide) (ht _ kf_Row_19) (fun _ h9 => h9) rfl (by decide +kernel) rfl rfl (Nat.le_of_ble_eq_true rfl) dRow_empty_7 (fun H locs hP hD hS => ?_)
  have hP : va_P D vwCl [(h0, .inr (0, [.ref h1, .int 0, .int 0]))] H := hP
  have hD : va_D A [(h0, .inr (0, [.ref h1, .int 0, .int 0]))] := hD
  have hP := hP.sub (ws' := [(h0, .inr (0, [.ref h1, .int 0, .int 0]))]) [0] rfl
  have hD := hD.sub (ws' := [(h0, .inr (0, [.ref h1, .int 0, .int 0]))]) [0] (by decide) rfl
  exact e_v () hx hb hr hlk hK hP hD hS rfl trivial dRow_empty_10

set_option maxHeartbeats 4000000 in
set_option maxRecDepth 100000 in
theorem c_Row_isCodedMark (l : Launch) (D : va_G) (cF cI : ClassId) (sz : Nat) (b : Int32) : Met l yRow_isCodedMark (.code yRow_isCodedMark cRow_isCodedMark 2 (some .boolean) :: TB) ({ frames := 0, cells := 0, slots := 0, locals := 0 }) (va_Pc [.int b] (cPre D cF cI [] sz)) (va_Qi (fun (r : Int32) (_ : Unit) => r = r_mark b) (cB D cF cI (va_A [] sz) (fun _ : Unit => [])) (va_A [] sz)) 0 0 (va_A [] sz) := by
  refine c_ofW (own := RRow) (by decide) rfl (fun p e s m below meth c hsz hx hb hr hml hown ht hlk hin hP hK hD hmb => ?_)
  subst hsz
  generalize hAe : va_A [] s.heap.size = A at hD ⊢
  have hA : ∀ q : Nat, s.heap.size ≤ q → A q := fun q h => by rw [← hAe]; exact Or.inr h
  have hS : va_S A s.heap s.heap [] := va_S.rf
  have hl := lv_entry ([.int b]) (n := 2) (Nat.le_of_ble_eq_true rfl)
  rw [lg_entry_eq]
  generalize (lg_sl ([.int b]) ++ List.replicate (2 - (lg_sl ([.int b])).length) Slot.unset).toArray = ls at hl ⊢
  have hl : lv_has ls 2 [(0, .int b)] := hl
  refine lv_iload_n hx hb dRow_isCodedMark_0 rfl (lv_at hl 0 rfl) ?_
  refine lv_sipush (v := (-129)) hx hb dRow_isCodedMark_1 (by decide) ?_
  refine k_iand (v := b &&& (-129)) hx hb dRow_isCodedMark_4 rfl ?_
  refine lv_bipush (v := 16) hx hb dRow_isCodedMark_5 (by decide) ?_
  refine k_isub (v := (b &&& (-129)) - 16) hx hb dRow_isCodedMark_7 rfl ?_
  refine lv_istore_n (lv' := [(1, .int ((b &&& (-129)) - 16)), (0, .int b)]) hx hb dRow_isCodedMark_8 rfl hl (by decide) rfl (fun ls hl => ?_)
  refine lv_iload_n hx hb dRow_isCodedMark_9 rfl (lv_at hl 0 rfl) ?_
  refine lv_if_lt (tgt := 23) hx hb dRow_isCodedMark_10 (by decide) (fun c1 => ?_) (fun c1 => ?_)
  · refine lv_iconst (v := 0) hx hb dRow_isCodedMark_23 (by decide) ?_
    have hP := hP.sub (ws' := []) [] rfl
    have hD := hD.sub (ws' := []) [] (by decide) rfl
    exact e_z () hx hb hr hlk hK hP hD hS rfl rfl (by unfold r_mark; rw [if_pos c1]) dRow_isCodedMark_24
  · refine lv_iload_n hx hb dRow_isCodedMark_13 rfl (lv_at hl 0 rfl) ?_
    refine lv_bipush (v := 15) hx hb dRow_isCodedMark_14 (by decide) ?_
    refine lv_icmp_gt (tgt := 23) hx hb dRow_isCodedMark_16 (by decide) (fun c2 => ?_) (fun c2 => ?_)
    · refine lv_iconst (v := 0) hx hb dRow_isCodedMark_23 (by decide) ?_
      have hP := hP.sub (ws' := []) [] rfl
      have hD := hD.sub (ws' := []) [] (by decide) rfl
      exact e_z () hx hb hr hlk hK hP hD hS rfl rfl (by unfold r_mark; rw [if_neg c1, if_pos c2]) dRow_isCodedMark_24
    · refine lv_iconst (v := 1) hx hb dRow_isCodedMark_19 (by decide) ?_
      refine lv_goto (tgt := 24) hx hb dRow_isCodedMark_20 (by decide) ?_
      have hP := hP.sub (ws' := []) [] rfl
      have hD := hD.sub (ws' := []) [] (by decide) rfl
      exact e_z () hx hb hr hlk hK hP hD hS rfl rfl (by unfold r_mark; rw [if_neg c1, if_neg c2]) dRow_isCodedMark_24

set_option maxHeartbeats 4000000 in
set_option maxRecDepth 100000 in
theorem c_Row_next (l : Launch) (D : va_G) (cF cI : ClassId) (sz : Nat) (h0 h1 : Nat) (f : Nat → Int32) (rs : Int32) (rd : Int32) (k : Int32) (hr0 : rs ≤ 120) : Met l yRow_next (.code yRow_next cRow_next 3 (some .int) :: TB) ({ frames := 1, cells := 0, slots := 0, locals := 21 }) (va_Pc [.ref h0, .int k] (cPre D cF cI [(h0, .inr (0, [.ref h1, .int rs, .int rd])), (h1, .inl (cI, 120, .inl f))] sz)) (va_Qi (fun (r : Int32) (_ : Unit) => r = r_next f rs rd k) (cB D cF cI (va_A [(h0, .inr (0, [.ref h1, .int rs, .int rd])), (h1, .inl (cI, 120, .inl f))] sz) (fun _ : Unit => [(h0, .inr (0, [.ref h1, .int rs, .int rd])), (h1, .inl (cI, 120, .inl f))])) (va_A [(h0, .inr (0, [.ref h1, .int rs, .int rd])), (h1, .inl (cI, 120, .inl f))] sz)) 0 0 (va_A [(h0, .inr (0, [.ref h1, .int rs, .int rd])), (h1, .inl (cI, 120, .inl f))] sz) := by
  refine c_ofW (own := RRow) (by decide) rfl (fun p e s m below meth c hsz hx hb hr hml hown ht hlk hin hP hK hD hmb => ?_)
  subst hsz
  generalize hAe : va_A [(h0, .inr (0, [.ref h1, .int rs, .int rd])), (h1, .inl (cI, 120, .inl f))] s.heap.size = A at hD ⊢
  have hA : ∀ q : Nat, s.heap.size ≤ q → A q := fun q h => by rw [← hAe]; exact Or.inr h
  have hS : va_S A s.heap s.heap [] := va_S.rf
  have hl := lv_entry ([.ref h0, .int k]) (n := 3) (Nat.le_of_ble_eq_true rfl)
  rw [lg_entry_eq]
  generalize (lg_sl ([.ref h0, .int k]) ++ List.replicate (3 - (lg_sl ([.ref h0, .int k])).length) Slot.unset).toArray = ls at hl ⊢
  have hl : lv_has ls 3 [(0, .ref h0), (1, .int k)] := hl
  refine lv_aload_n hx hb dRow_next_0 rfl (lv_at hl 0 rfl) ?_
  refine va_get (D := D) (ci := 0) (v := .int rd) hx hb ht inRow hown hK hP 0 rfl rfl 2 (by decide) (ht _ kf_Row_19) (fun _ h9 => h9) rfl dRow_next_1 ?_
  refine lv_iload_n hx hb dRow_next_4 rfl (lv_at hl 1 rfl) ?_
  refine k_iadd (v := rd + k) hx hb dRow_next_5 rfl ?_
  refine lv_istore_n (lv' := [(2, .int (rd + k)), (0, .ref h0), (1, .int k)]) hx hb dRow_next_6 rfl hl (by decide) rfl (fun ls hl => ?_)
  refine lv_aload_n hx hb dRow_next_7 rfl (lv_at hl 1 rfl) ?_
  refine lv_iload_n hx hb dRow_next_8 rfl (lv_at hl 0 rfl) ?_
  refine q_i (wc := [(h0, .inr (0, [.ref h1, .int rs, .int rd]))]) (wr := [(h1, .inl (cI, 120, .inl f))]) [0] [1] hK hP hD hS hA rfl rfl (by decide) (by decide) (va_runV (As := [.int (rd + k)]) (rest := []) ⟨hx, hb, hml, hown, ht⟩ (c_Row_has l D cF cI s.heap.size h0 h1 rs rd (rd + k)) (cwV 1 ht (g_V km_Row_22 ki_Row_has kv_Row_has kI_Row kc_Row_has) rfl rfl rfl (by decide +kernel) ⟨Nat.le_of_ble_eq_true rfl, Nat.le_of_ble_eq_true rfl⟩) (cPre_V (ci := 0) (q0 := 0) hK hmb (hP.sub (ws' := [(h0, .inr (0, [.ref h1, .int rs, .int rd]))]) [0] rfl) (hD.sub (ws' := [(h0, .inr (0, [.ref h1, .int rs, .int rd]))]) [0] (by decide) rfl) rfl rfl) rfl rfl hl.1 rfl (lv_room (Nat.le_of_ble_eq_true rfl)) dRow_next_9 ⟨Nat.le_of_ble_eq_true rfl, Nat.le_of_ble_eq_true rfl⟩) (fun r1 u2 H locs w3 hP hD hS => ?_)
  subst w3
  have hP : va_P D vwCl [(h1, .inl (cI, 120, .inl f)), (h0, .inr (0, [.ref h1, .int rs, .int rd]))] H := hP
  have hD : va_D A [(h1, .inl (cI, 120, .inl f)), (h0, .inr (0, [.ref h1, .int rs, .int rd]))] := hD
  refine lv_if_eq (tgt := 24) hx hb dRow_next_12 (by decide) (fun c4 => ?_) (fun c4 => ?_)
  · refine lv_iconst (v := 0) hx hb dRow_next_24 (by decide) ?_
    have hP := hP.sub (ws' := [(h0, .inr (0, [.ref h1, .int rs, .int rd])), (h1, .inl (cI, 120, .inl f))]) [1, 0] rfl
    have hD := hD.sub (ws' := [(h0, .inr (0, [.ref h1, .int rs, .int rd])), (h1, .inl (cI, 120, .inl f))]) [1, 0] (by decide) rfl
    exact e_i () hx hb hr hlk hK hP hD hS rfl (by unfold r_next; rw [if_pos c4]) dRow_next_25
  · refine lv_aload_n hx hb dRow_next_15 rfl (lv_at hl 1 rfl) ?_
    refine va_get (D := D) (ci := 0) (v := .ref h1) hx hb ht inRow hown hK hP 1 rfl rfl 0 (by decide) (ht _ kf_Row_9) (fun _ h9 => h9) rfl dRow_next_16 ?_
    refine lv_iload_n hx hb dRow_next_19 rfl (lv_at hl 0 rfl) ?_
    refine k_iald (j := (rd + k).toNatClampNeg) hx hb hK hP 0 1 rfl rfl (r_has_in c4 hr0) rfl dRow_next_20 ?_
    refine lv_goto (tgt := 25) hx hb dRow_next_21 (by decide) ?_
    have hP := hP.sub (ws' := [(h0, .inr (0, [.ref h1, .int rs, .int rd])), (h1, .inl (cI, 120, .inl f))]) [1, 0] rfl
    have hD := hD.sub (ws' := [(h0, .inr (0, [.ref h1, .int rs, .int rd])), (h1, .inl (cI, 120, .inl f))]) [1, 0] (by decide) rfl
    exact e_i () hx hb hr hlk hK hP hD hS rfl (by unfold r_next; rw [if_neg c4]) dRow_next_25

set_option maxHeartbeats 4000000 in
set_option maxRecDepth 100000 in
theorem c_Row_nextSize (l : Launch) (D : va_G) (cF cI : ClassId) (sz : Nat) (h0 h1 : Nat) (f : Nat → Int32) (rs : Int32) (rd : Int32) (hr0 : rs ≤ 120) : Met l yRow_nextSize (.code yRow_nextSize cRow_nextSize 1 (some .int) :: TB) ({ frames := 2, cells := 0, slots := 0, locals := 43 }) (va_Pc [.ref h0] (cPre D cF cI [(h0, .inr (0, [.ref h1, .int rs, .int rd])), (h1, .inl (cI, 120, .inl f))] sz)) (va_Qi (fun (r : Int32) (_ : Unit) => r = r_size f rs rd) (cB D cF cI (va_A [(h0, .inr (0, [.ref h1, .int rs, .int rd])), (h1, .inl (cI, 120, .inl f))] sz) (fun _ : Unit => [(h0, .inr (0, [.ref h1, .int rs, .int rd])), (h1, .inl (cI, 120, .inl f))])) (va_A [(h0, .inr (0, [.ref h1, .int rs, .int rd])), (h1, .inl (cI, 120, .inl f))] sz)) 0 0 (va_A [(h0, .inr (0, [.ref h1, .int rs, .int rd])), (h1, .inl (cI, 120, .inl f))] sz) := by
  refine c_ofW (own := RRow) (by decide) rfl (fun p e s m below meth c hsz hx hb hr hml hown ht hlk hin hP hK hD hmb => ?_)
  subst hsz
  generalize hAe : va_A [(h0, .inr (0, [.ref h1, .int rs, .int rd])), (h1, .inl (cI, 120, .inl f))] s.heap.size = A at hD ⊢
  have hA : ∀ q : Nat, s.heap.size ≤ q → A q := fun q h => by rw [← hAe]; exact Or.inr h
  have hS : va_S A s.heap s.heap [] := va_S.rf
  have hl := lv_entry ([.ref h0]) (n := 1) (Nat.le_of_ble_eq_true rfl)
  rw [lg_entry_eq]
  generalize (lg_sl ([.ref h0]) ++ List.replicate (1 - (lg_sl ([.ref h0])).length) Slot.unset).toArray = ls at hl ⊢
  have hl : lv_has ls 1 [(0, .ref h0)] := hl
  refine lv_aload_n hx hb dRow_nextSize_0 rfl (lv_at hl 0 rfl) ?_
  refine lv_iconst (v := 0) hx hb dRow_nextSize_1 (by decide) ?_
  refine q_i (wc := [(h0, .inr (0, [.ref h1, .int rs, .int rd])), (h1, .inl (cI, 120, .inl f))]) (wr := []) [0, 1] [] hK hP hD hS hA rfl rfl (by decide) (by decide) (va_runV (As := [.int 0]) (rest := []) ⟨hx, hb, hml, hown, ht⟩ (c_Row_next l D cF cI s.heap.size h0 h1 f rs rd 0 hr0) (cwV 1 ht (g_V km_Row_26 ki_Row_next kv_Row_next kI_Row kc_Row_next) rfl rfl rfl (by decide +kernel) ⟨Nat.le_of_ble_eq_true rfl, Nat.le_of_ble_eq_true rfl⟩) (cPre_V (ci := 0) (q0 := 0) hK hmb (hP.sub (ws' := [(h0, .inr (0, [.ref h1, .int rs, .int rd])), (h1, .inl (cI, 120, .inl f))]) [0, 1] rfl) (hD.sub (ws' := [(h0, .inr (0, [.ref h1, .int rs, .int rd])), (h1, .inl (cI, 120, .inl f))]) [0, 1] (by decide) rfl) rfl rfl) rfl rfl hl.1 rfl (lv_room (Nat.le_of_ble_eq_true rfl)) dRow_nextSize_2 ⟨Nat.le_of_ble_eq_true rfl, Nat.le_of_ble_eq_true rfl⟩) (fun r1 u2 H locs w3 hP hD hS => ?_)
  subst w3
  have hP : va_P D vwCl [(h0, .inr (0, [.ref h1, .int rs, .int rd])), (h1, .inl (cI, 120, .inl f))] H := hP
  have hD : va_D A [(h0, .inr (0, [.ref h1, .int rs, .int rd])), (h1, .inl (cI, 120, .inl f))] := hD
  refine q_i (wc := []) (wr := [(h0, .inr (0, [.ref h1, .int rs, .int rd])), (h1, .inl (cI, 120, .inl f))]) [] [0, 1] hK hP hD hS hA rfl rfl (by decide) (by decide) (va_runS (As := [.int (r_next f rs rd 0)]) (rest := []) ⟨hx, hb, hml, hown, ht⟩ (c_Row_isCodedMark l D cF cI H.size (r_next f rs rd 0)) (va_cwS 1 ht (g_S km_Row_30 ks_Row_isCodedMark kI_Row kc_Row_isCodedMark) rfl rfl rfl (by decide +kernel) ⟨Nat.le_of_ble_eq_true rfl, Nat.le_of_ble_eq_true rfl⟩) (cPre_S hK hmb (hP.sub (ws' := []) [] rfl) (hD.sub (ws' := []) [] (by decide) rfl)) rfl rfl hl.1 rfl (lv_room (Nat.le_of_ble_eq_true rfl)) dRow_nextSize_5 ⟨Nat.le_of_ble_eq_true rfl, Nat.le_of_ble_eq_true rfl⟩) (fun r4 u5 H locs w6 hP hD hS => ?_)
  subst w6
  have hP : va_P D vwCl [(h0, .inr (0, [.ref h1, .int rs, .int rd])), (h1, .inl (cI, 120, .inl f))] H := hP
  have hD : va_D A [(h0, .inr (0, [.ref h1, .int rs, .int rd])), (h1, .inl (cI, 120, .inl f))] := hD
  refine lv_if_eq (tgt := 16) hx hb dRow_nextSize_8 (by decide) (fun c7 => ?_) (fun c7 => ?_)
  · refine lv_iconst (v := 1) hx hb dRow_nextSize_16 (by decide) ?_
    have hP := hP.sub (ws' := [(h0, .inr (0, [.ref h1, .int rs, .int rd])), (h1, .inl (cI, 120, .inl f))]) [0, 1] rfl
    have hD := hD.sub (ws' := [(h0, .inr (0, [.ref h1, .int rs, .int rd])), (h1, .inl (cI, 120, .inl f))]) [0, 1] (by decide) rfl
    exact e_i () hx hb hr hlk hK hP hD hS rfl (by unfold r_size; rw [if_pos c7]) dRow_nextSize_17
  · refine lv_bipush (v := 14) hx hb dRow_nextSize_11 (by decide) ?_
    refine lv_goto (tgt := 17) hx hb dRow_nextSize_13 (by decide) ?_
    have hP := hP.sub (ws' := [(h0, .inr (0, [.ref h1, .int rs, .int rd])), (h1, .inl (cI, 120, .inl f))]) [0, 1] rfl
    have hD := hD.sub (ws' := [(h0, .inr (0, [.ref h1, .int rs, .int rd])), (h1, .inl (cI, 120, .inl f))]) [0, 1] (by decide) rfl
    exact e_i () hx hb hr hlk hK hP hD hS rfl (by unfold r_size; rw [if_neg c7]) dRow_nextSize_17

def r_sum (f : Nat → Int32) (rs rd : Int32) : Nat → Int32
  | 0 => 0
  | n + 1 => r_sum f rs rd n + r_next f rs rd (nI n)

set_option maxHeartbeats 4000000 in
set_option maxRecDepth 100000 in
theorem c_Row_nextSum (l : Launch) (D : va_G) (cF cI : ClassId) (sz : Nat) (h0 h1 : Nat) (f : Nat → Int32) (rs : Int32) (rd : Int32) (hr0 : rs ≤ 120) : Met l yRow_nextSum (.code yRow_nextSum cRow_nextSum 3 (some .int) :: TB) ({ frames := 2, cells := 0, slots := 0, locals := 43 }) (va_Pc [.ref h0] (cPre D cF cI [(h0, .inr (0, [.ref h1, .int rs, .int rd])), (h1, .inl (cI, 120, .inl f))] sz)) (va_Qi (fun (r : Int32) (_ : Unit) => r = r_sum f rs rd 13 &&& 255) (cB D cF cI (va_A [(h0, .inr (0, [.ref h1, .int rs, .int rd])), (h1, .inl (cI, 120, .inl f))] sz) (fun _ : Unit => [(h0, .inr (0, [.ref h1, .int rs, .int rd])), (h1, .inl (cI, 120, .inl f))])) (va_A [(h0, .inr (0, [.ref h1, .int rs, .int rd])), (h1, .inl (cI, 120, .inl f))] sz)) 0 0 (va_A [(h0, .inr (0, [.ref h1, .int rs, .int rd])), (h1, .inl (cI, 120, .inl f))] sz) := by
  refine c_ofW (own := RRow) (by decide) rfl (fun p e s m below meth c hsz hx hb hr hml hown ht hlk hin hP hK hD hmb => ?_)
  subst hsz
  generalize hAe : va_A [(h0, .inr (0, [.ref h1, .int rs, .int rd])), (h1, .inl (cI, 120, .inl f))] s.heap.size = A at hD ⊢
  have hA : ∀ q : Nat, s.heap.size ≤ q → A q := fun q h => by rw [← hAe]; exact Or.inr h
  have hS : va_S A s.heap s.heap [] := va_S.rf
  have hl := lv_entry ([.ref h0]) (n := 3) (Nat.le_of_ble_eq_true rfl)
  rw [lg_entry_eq]
  generalize (lg_sl ([.ref h0]) ++ List.replicate (3 - (lg_sl ([.ref h0])).length) Slot.unset).toArray = ls at hl ⊢
  have hl : lv_has ls 3 [(0, .ref h0)] := hl
  refine lv_iconst (v := 0) hx hb dRow_nextSum_0 (by decide) ?_
  refine lv_istore_n (lv' := [(1, .int 0), (0, .ref h0)]) hx hb dRow_nextSum_1 rfl hl (by decide) rfl (fun ls hl => ?_)
  refine lv_iconst (v := 0) hx hb dRow_nextSum_2 (by decide) ?_
  refine lv_istore_n (lv' := [(2, .int 0), (1, .int 0), (0, .ref h0)]) hx hb dRow_nextSum_3 rfl hl (by decide) rfl (fun ls hl => ?_)
  have loop : ∀ (n i : Nat), i + n = 13 → ∀ (H : Heap) (locs : List Loc), va_P D vwCl [(h0, .inr (0, [.ref h1, .int rs, .int rd])), (h1, .inl (cI, 120, .inl f))] H → va_D A [(h0, .inr (0, [.ref h1, .int rs, .int rd])), (h1, .inl (cI, 120, .inl f))] → va_S A s.heap H locs → ∀ (ls : Array Slot), lv_has ls 3 [(1, .int (r_sum f rs rd i)), (2, .int (nI i)), (0, .ref h0)] → W p l e ({ frames := 2, cells := 0, slots := 0, locals := 43 } : Room) s m ([.ref h0] : List Value).toArray below meth c H locs 0 0 (MQ below (va_Qi (fun (r : Int32) (_ : Unit) => r = r_sum f rs rd 13 &&& 255) (cB D cF cI A (fun _ : Unit => [(h0, .inr (0, [.ref h1, .int rs, .int rd])), (h1, .inl (cI, 120, .inl f))])) A) ([.ref h0] : List Value).toArray s 0 0 A) (F0 m 4 ls []) := by
    intro n
    induction n with
    | zero =>
      intro i hi H locs hP hD hS ls hl
      obtain rfl : 13 = i := by omega
      refine lv_iload_n hx hb dRow_nextSum_4 rfl (lv_at hl 1 rfl) ?_
      refine lv_bipush (v := 13) hx hb dRow_nextSum_5 (by decide) ?_
      refine lv_icmp_ge (tgt := 24) hx hb dRow_nextSum_7 (by decide) (fun c1 => ?_) (fun c1 => ?_)
      · refine lv_iload_n hx hb dRow_nextSum_24 rfl (lv_at hl 0 rfl) ?_
        refine lv_sipush (v := 255) hx hb dRow_nextSum_25 (by decide) ?_
        refine k_iand (v := (r_sum f rs rd 13) &&& 255) hx hb dRow_nextSum_28 rfl ?_
        have hP := hP.sub (ws' := [(h0, .inr (0, [.ref h1, .int rs, .int rd])), (h1, .inl (cI, 120, .inl f))]) [0, 1] rfl
        have hD := hD.sub (ws' := [(h0, .inr (0, [.ref h1, .int rs, .int rd])), (h1, .inl (cI, 120, .inl f))]) [0, 1] (by decide) rfl
        exact e_i () hx hb hr hlk hK hP hD hS rfl rfl dRow_nextSum_29
      · exact absurd (by decide) c1
    | succ n ih =>
      intro i hi H locs hP hD hS ls hl
      have hi1 : i < 13 := by omega
      refine lv_iload_n hx hb dRow_nextSum_4 rfl (lv_at hl 1 rfl) ?_
      refine lv_bipush (v := 13) hx hb dRow_nextSum_5 (by decide) ?_
      refine lv_icmp_ge (tgt := 24) hx hb dRow_nextSum_7 (by decide) (fun c2 => ?_) (fun c2 => ?_)
      · exact absurd c2 (lt_up (N := 13) (by decide) hi1 (by decide))
      · refine lv_iload_n hx hb dRow_nextSum_10 rfl (lv_at hl 0 rfl) ?_
        refine lv_aload_n hx hb dRow_nextSum_11 rfl (lv_at hl 2 rfl) ?_
        refine lv_iload_n hx hb dRow_nextSum_12 rfl (lv_at hl 1 rfl) ?_
        refine q_i (wc := [(h0, .inr (0, [.ref h1, .int rs, .int rd])), (h1, .inl (cI, 120, .inl f))]) (wr := []) [0, 1] [] hK hP hD hS hA rfl rfl (by decide) (by decide) (va_runV (As := [.int (nI i)]) (rest := [.int (r_sum f rs rd i)]) ⟨hx, hb, hml, hown, ht⟩ (c_Row_next l D cF cI H.size h0 h1 f rs rd (nI i) hr0) (cwV 1 ht (g_V km_Row_26 ki_Row_next kv_Row_next kI_Row kc_Row_next) rfl rfl rfl (by decide +kernel) ⟨Nat.le_of_ble_eq_true rfl, Nat.le_of_ble_eq_true rfl⟩) (cPre_V (ci := 0) (q0 := 0) hK hmb (hP.sub (ws' := [(h0, .inr (0, [.ref h1, .int rs, .int rd])), (h1, .inl (cI, 120, .inl f))]) [0, 1] rfl) (hD.sub (ws' := [(h0, .inr (0, [.ref h1, .int rs, .int rd])), (h1, .inl (cI, 120, .inl f))]) [0, 1] (by decide) rfl) rfl rfl) rfl rfl hl.1 rfl (lv_room (Nat.le_of_ble_eq_true rfl)) dRow_nextSum_13 ⟨Nat.le_of_ble_eq_true rfl, Nat.le_of_ble_eq_true rfl⟩) (fun r3 u4 H locs w5 hP hD hS => ?_)
        subst w5
        have hP : va_P D vwCl [(h0, .inr (0, [.ref h1, .int rs, .int rd])), (h1, .inl (cI, 120, .inl f))] H := hP
        have hD : va_D A [(h0, .inr (0, [.ref h1, .int rs, .int rd])), (h1, .inl (cI, 120, .inl f))] := hD
        refine k_iadd (v := (r_sum f rs rd i) + (r_next f rs rd (nI i))) hx hb dRow_nextSum_16 rfl ?_
        refine lv_istore_n (lv' := [(1, .int ((r_sum f rs rd i) + (r_next f rs rd (nI i)))), (2, .int (nI i)), (0, .ref h0)]) hx hb dRow_nextSum_17 rfl hl (by decide) rfl (fun ls hl => ?_)
        refine lv_iinc (v := nI (i + 1)) (lv' := [(2, .int (nI (i + 1))), (1, .int ((r_sum f rs rd i) + (r_next f rs rd (nI i)))), (0, .ref h0)]) hx hb dRow_nextSum_18 hl (k := 1) rfl (nI_1 i) (by decide) rfl (fun ls hl => ?_)
        refine lv_goto (tgt := 4) hx hb dRow_nextSum_21 (by decide) ?_
        exact ih (i + 1) (by omega)  _ _ (hP.sub (ws' := [(h0, .inr (0, [.ref h1, .int rs, .int rd])), (h1, .inl (cI, 120, .inl f))]) [0, 1] rfl) (hD.sub (ws' := [(h0, .inr (0, [.ref h1, .int rs, .int rd])), (h1, .inl (cI, 120, .inl f))]) [0, 1] (by decide) rfl) hS ls (lv_sub hl [1, 0, 2] rfl)
  exact loop 13 0 (by omega)  _ _ (hP.sub (ws' := [(h0, .inr (0, [.ref h1, .int rs, .int rd])), (h1, .inl (cI, 120, .inl f))]) [0, 1] rfl) (hD.sub (ws' := [(h0, .inr (0, [.ref h1, .int rs, .int rd])), (h1, .inl (cI, 120, .inl f))]) [0, 1] (by decide) rfl) hS ls (by have hl := lv_sub hl (l' := [(1, .int 0), (2, .int 0), (0, .ref h0)]) [1, 0, 2] rfl; try rw [show (0 : Int32) = nI 0 from (by decide)] at hl; exact hl)
