/-! THE REFERENCE: small methods -/
def m_in (v lo hi : Int32) : Int32 := if v < lo then 0 else if hi < v then 0 else 1
theorem z_in (v lo hi : Int32) : narrow .boolean (.int (m_in v lo hi)) = .int (m_in v lo hi) := by unfold m_in; split <;> (try split) <;> rfl
def m_pow : Nat → UInt32
  | 0 => FP.fconst1
  | k + 1 => FP.fmul (m_pow k) FP.fconst2
theorem m_pow_all : ∀ k : Nat, k < 17 → (m_pow k).toNat % 2 ^ 31 < 160 * 2 ^ 23 := by decide +kernel
theorem m_pow_k {k : Nat} (h : k < 17) : fk 160 (m_pow k) := m_pow_all k h
def m_step (lin : Int32) (g : Nat) : UInt32 := if lin = 0 then FP.fdiv (m_pow g) 1082130432 else FP.i2f (16 * nI g + 1)
theorem m_div4 {v : UInt32} (h : fk 160 v) : fk 160 (FP.fdiv v 1082130432) := fk_div (K := 160) (L := 128) h (show fg 128 1082130432 by unfold fg; decide) (show fk 255 1082130432 by unfold fk; decide) (by decide) (by decide)
def m_clip (v : UInt32) : UInt32 := if Op.cmpValue (FP.fcmp v 1191181824) .l ≤ 0 then (if 0 ≤ Op.cmpValue (FP.fcmp v 3338665984) .g then v else 3338665984) else 1191181824
def m_whole (v : UInt32) : Int32 := if 0 ≤ Op.cmpValue (FP.fcmp v FP.fconst0) .g then FP.f2i (FP.fadd v 1056964608) else FP.f2i (FP.fsub v 1056964608)
def m_bef (wk mq : Nat → UInt32) (nn : Int32) : UInt32 := if nn < 0 then mq ((-1) - nn).toNatClampNeg else wk nn.toNatClampNeg
def m_his (wk mq : Nat → UInt32) (i : Nat) : Nat → UInt32 := fun t => m_bef wk mq (nI i - nI (t + 1))
theorem bef_k {wk mq : Nat → UInt32} (hwk : ∀ j, fk 143 (wk j)) (hmq : ∀ j, fk 143 (mq j)) (nn : Int32) : fk 143 (m_bef wk mq nn) := by
  unfold m_bef; split
  · exact hmq _
  · exact hwk _
theorem bef_1 {i j : Nat} {J : Int32} (hJ : J = nI j) (hi : i < 16) (hj : j ≤ 4) : ¬ nI i - J < 0 → vp_in (nI i - J) 16 := by
  subst hJ
  intro h
  rw [vp_in_iff, pk_sub_toInt (by omega) (by omega)]
  rw [Int32.lt_iff_toInt_lt, pk_sub_toInt (by omega) (by omega)] at h
  have e : (0 : Int32).toInt = 0 := rfl
  omega
theorem bef_2 {i j : Nat} {J : Int32} (hJ : J = nI j) (hi : i < 16) (hj : j ≤ 4) : nI i - J < 0 → vp_in ((-1) - (nI i - J)) 4 := by
  subst hJ
  intro h
  rw [Int32.lt_iff_toInt_lt, pk_sub_toInt (by omega) (by omega)] at h
  have e : (0 : Int32).toInt = 0 := rfl
  have e2 : (-1 : Int32) - (nI i - nI j) = nI (j - 1 - i) := by
    rw [show (-1 : Int32) - (nI i - nI j) = nI j - nI 1 - nI i from ?_, pk_sub (by omega), pk_sub (by omega)]
    rw [show (-1 : Int32) = - nI 1 from (by decide)]
    apply Int32.toBitVec_inj.mp
    simp only [Int32.toBitVec_sub, Int32.toBitVec_neg]
    generalize (nI i).toBitVec = x
    generalize (nI j).toBitVec = y
    generalize (nI 1).toBitVec = z
    rw [BitVec.sub_eq_add_neg, BitVec.sub_eq_add_neg, BitVec.sub_eq_add_neg, BitVec.sub_eq_add_neg, BitVec.neg_add, BitVec.sub_eq_add_neg, BitVec.neg_neg]
    ac_rfl
  rw [e2]
  exact vp_in_nI (by omega) (by omega)
def a_cp (g h : Nat → UInt32) (k : Nat) : Nat → UInt32 := fun j => if j < k then g j else h j
theorem a_cp_0 (g h : Nat → UInt32) : a_cp g h 0 = h := by funext j; simp [a_cp]
theorem a_cp_s (g h : Nat → UInt32) (k : Nat) : vf_upd (a_cp g h k) k (g k) = a_cp g h (k + 1) := by
  funext j
  unfold vf_upd a_cp
  by_cases q : j = k
  · subst q; simp
  · rw [if_neg q]
    by_cases h2 : j < k
    · rw [if_pos h2, if_pos (by omega)]
    · rw [if_neg h2, if_neg (by omega)]
def m_mem (mm wk : Nat → UInt32) : Nat → UInt32 := vf_upd (vf_upd (vf_upd (vf_upd mm 0 (wk 15)) 1 (wk 14)) 2 (wk 13)) 3 (wk 12)
def m_gt (b d : UInt32) : UInt32 := if Op.cmpValue (FP.fcmp d b) .l ≤ 0 then b else d
def m_ap (yc yd : Nat → UInt32) : Nat → UInt32
  | 0 => FP.fconst0
  | i + 1 => m_gt (m_ap yc yd i) (f_uns (FP.fsub (yc i) (yd i)))
theorem gt_k {K : Nat} {x y : UInt32} (hx : fk K x) (hy : fk K y) : fk K (m_gt x y) := by unfold m_gt; split; exact hx; exact hy
theorem ap_k {yc yd : Nat → UInt32} (h1 : ∀ j, fk 143 (yc j)) (h2 : ∀ j, fk 143 (yd j)) : ∀ i, fk 145 (m_ap yc yd i) := by
  intro i
  induction i with
  | zero => exact fk_mono (K := 1) (show fk 1 FP.fconst0 by unfold fk; decide) (by decide)
  | succ i ih => exact gt_k ih (uns_k (fk_sub (h1 _) (h2 _) (by decide)))

set_option maxHeartbeats 4000000 in
set_option maxRecDepth 100000 in
theorem c_Mod_init (l : Launch) (D : va_G) (cF cI : ClassId) (sz : Nat) (h0 : Nat) : Met l yMod_init (.code yMod_init cMod_init 1 none :: TB) ({ frames := 1, cells := 15, slots := 288, locals := 13 }) (va_Pc [.ref h0] (cPre D cF cI [(h0, .inr (6, [.null, .null, .null, .null, .null, .null, .null, .null, .null, .null, .null, .null, .null, .null, .null, .int 0, .int 0, .int 0, .int 0, .int 0, .int 0, .int 0, .int 0, .int 0, .int 0, .int 0]))] sz)) (va_Qv (fun _ : Nat × Nat × Nat × Nat × Nat × Nat × Nat × Nat × Nat × Nat × Nat × Nat × Nat × Nat × Nat => True) (cB D cF cI (va_A [(h0, .inr (6, [.null, .null, .null, .null, .null, .null, .null, .null, .null, .null, .null, .null, .null, .null, .null, .int 0, .int 0, .int 0, .int 0, .int 0, .int 0, .int 0, .int 0, .int 0, .int 0, .int 0]))] sz) (fun u : Nat × Nat × Nat × Nat × Nat × Nat × Nat × Nat × Nat × Nat × Nat × Nat × Nat × Nat × Nat => [(h0, .inr (6, [.ref u.1, .ref u.2.1, .ref u.2.2.1, .ref u.2.2.2.1, .ref u.2.2.2.2.1, .ref u.2.2.2.2.2.1, .ref u.2.2.2.2.2.2.1, .ref u.2.2.2.2.2.2.2.1, .ref u.2.2.2.2.2.2.2.2.1, .ref u.2.2.2.2.2.2.2.2.2.1, .ref u.2.2.2.2.2.2.2.2.2.2.1, .ref u.2.2.2.2.2.2.2.2.2.2.2.1, .ref u.2.2.2.2.2.2.2.2.2.2.2.2.1, .ref u.2.2.2.2.2.2.2.2.2.2.2.2.2.1, .ref u.2.2.2.2.2.2.2.2.2.2.2.2.2.2, .int 0, .int 0, .int 0, .int 0, .int 0, .int 0, .int 0, .int 0, .int 0, .int 0, .int 0])), (u.1, .inl (cF, 48, .inr (.inr (.inl (fun _ => 0))))), (u.2.1, .inl (cF, 16, .inr (.inr (.inl (fun _ => 0))))), (u.2.2.1, .inl (cF, 16, .inr (.inr (.inl (fun _ => 0))))), (u.2.2.2.1, .inl (cF, 16, .inr (.inr (.inl (fun _ => 0))))), (u.2.2.2.2.1, .inl (cF, 16, .inr (.inr (.inl (fun _ => 0))))), (u.2.2.2.2.2.1, .inl (cF, 4, .inr (.inr (.inl (fun _ => 0))))), (u.2.2.2.2.2.2.1, .inl (cF, 4, .inr (.inr (.inl (fun _ => 0))))), (u.2.2.2.2.2.2.2.1, .inl (cF, 5, .inr (.inr (.inl (fun _ => 0))))), (u.2.2.2.2.2.2.2.2.1, .inl (cF, 5, .inr (.inr (.inl (fun _ => 0))))), (u.2.2.2.2.2.2.2.2.2.1, .inl (cF, 5, .inr (.inr (.inl (fun _ => 0))))), (u.2.2.2.2.2.2.2.2.2.2.1, .inl (cF, 5, .inr (.inr (.inl (fun _ => 0))))), (u.2.2.2.2.2.2.2.2.2.2.2.1, .inl (cI, 120, .inl (fun _ => 0))), (u.2.2.2.2.2.2.2.2.2.2.2.2.1, .inl (cI, 16, .inl (fun _ => 0))), (u.2.2.2.2.2.2.2.2.2.2.2.2.2.1, .inl (cI, 5, .inl (fun _ => 0))), (u.2.2.2.2.2.2.2.2.2.2.2.2.2.2, .inl (cI, 7, .inl (fun _ => 0)))])) (va_A [(h0, .inr (6, [.null, .null, .null, .null, .null, .null, .null, .null, .null, .null, .null, .null, .null, .null, .null, .int 0, .int 0, .int 0, .int 0, .int 0, .int 0, .int 0, .int 0, .int 0, .int 0, .int 0]))] sz)) 15 288 (va_A [(h0, .inr (6, [.null, .null, .null, .null, .null, .null, .null, .null, .null, .null, .null, .null, .null, .null, .null, .int 0, .int 0, .int 0, .int 0, .int 0, .int 0, .int 0, .int 0, .int 0, .int 0, .int 0]))] sz) := by
  refine c_ofW (own := RMod) (by decide) rfl (fun p e s m below meth c hsz hx hb hr hml hown ht hlk hin hP hK hD hmb => ?_)
  subst hsz
  generalize hAe : va_A [(h0, .inr (6, [.null, .null, .null, .null, .null, .null, .null, .null, .null, .null, .null, .null, .null, .null, .null, .int 0, .int 0, .int 0, .int 0, .int 0, .int 0, .int 0, .int 0, .int 0, .int 0, .int 0]))] s.heap.size = A at hD ⊢
  have hA : ∀ q : Nat, s.heap.size ≤ q → A q := fun q h => by rw [← hAe]; exact Or.inr h
  have hS : va_S A s.heap s.heap [] := va_S.rf
  have hl := lv_entry ([.ref h0]) (n := 1) (Nat.le_of_ble_eq_true rfl)
  rw [lg_entry_eq]
  generalize (lg_sl ([.ref h0]) ++ List.replicate (1 - (lg_sl ([.ref h0])).length) Slot.unset).toArray = ls at hl ⊢
  have hl : lv_has ls 1 [(0, .ref h0)] := hl
  refine lv_aload_n hx hb dMod_init_0 rfl (lv_at hl 0 rfl) ?_
  refine W.objInit hx hb hown (ht _ km_Mod_1) (ht _ ki_objectInit) (ht _ kc_objectInit) rfl (by rw [hml]; exact hl.1) rfl dMod_init_1 (Nat.le_of_ble_eq_true rfl) (Nat.le_of_ble_eq_true rfl) ?_
  refine W.eq (g2 := F0 m 4 ls []) rfl ?_
  refine lv_aload_n hx hb dMod_init_4 rfl (lv_at hl 0 rfl) ?_
  refine lv_bipush (v := 48) hx hb dMod_init_5 (by decide) ?_
  refine n_arr (ty := .float) (n := 48) (N := 48) (a0 := (48, .inr (.inr (.inl (fun _ => 0))))) 0 hx hb (ht _ ka_float) rfl hK hP hD hS hA (fun _ => rfl) (by decide) (by decide) (by decide) (Nat.le_of_ble_eq_true rfl) (Nat.le_of_ble_eq_true rfl) rfl dMod_init_7 (fun q1 H hP hD hS => ?_)
  have hP : va_P D vwCl [(h0, .inr (6, [.null, .null, .null, .null, .null, .null, .null, .null, .null, .null, .null, .null, .null, .null, .null, .int 0, .int 0, .int 0, .int 0, .int 0, .int 0, .int 0, .int 0, .int 0, .int 0, .int 0])), (q1, .inl (cF, 48, .inr (.inr (.inl (fun _ => 0)))))] H := hP
  have hD : va_D A [(h0, .inr (6, [.null, .null, .null, .null, .null, .null, .null, .null, .null, .null, .null, .null, .null, .null, .null, .int 0, .int 0, .int 0, .int 0, .int 0, .int 0, .int 0, .int 0, .int 0, .int 0, .int 0])), (q1, .inl (cF, 48, .inr (.inr (.inl (fun _ => 0)))))] := hD
  refine va_putF (D := D) (ci := 6) (v := .ref q1) (ty := (.array (.float))) hx hb ht inMod tMod tMod_ok nMod hown hK hP hD hS 0 rfl rfl 0 (by decide) (ht _ kf_Mod_7) (fun _ h9 => h9) rfl hin rfl (by decide +kernel) rfl rfl (Nat.le_of_ble_eq_true rfl) dMod_init_9 (fun H locs hP hD hS => ?_)
  have hP : va_P D vwCl [(h0, .inr (6, [.ref q1, .null, .null, .null, .null, .null, .null, .null, .null, .null, .null, .null, .null, .null, .null, .int 0, .int 0, .int 0, .int 0, .int 0, .int 0, .int 0, .int 0, .int 0, .int 0, .int 0])), (q1, .inl (cF, 48, .inr (.inr (.inl (fun _ => 0)))))] H := hP
  have hD : va_D A [(h0, .inr (6, [.ref q1, .null, .null, .null, .null, .null, .null, .null, .null, .null, .null, .null, .null, .null, .null, .int 0, .int 0, .int 0, .int 0, .int 0, .int 0, .int 0, .int 0, .int 0, .int 0, .int 0])), (q1, .inl (cF, 48, .inr (.inr (.inl (fun _ => 0)))))] := hD
  refine lv_aload_n hx hb dMod_init_12 rfl (lv_at hl 0 rfl) ?_
  refine lv_bipush (v := 16) hx hb dMod_init_13 (by decide) ?_
  refine n_arr (ty := .float) (n := 16) (N := 16) (a0 := (16, .inr (.inr (.inl (fun _ => 0))))) 0 hx hb (ht _ ka_float) rfl hK hP hD hS hA (fun _ => rfl) (by decide) (by decide) (by decide) (Nat.le_of_ble_eq_true rfl) (Nat.le_of_ble_eq_true rfl) rfl dMod_init_15 (fun q2 H hP hD hS => ?_)
  have hP : va_P D vwCl [(h0, .inr (6, [.ref q1, .null, .null, .null, .null, .null, .null, .null, .null, .null, .null, .null, .null, .null, .null, .int 0, .int 0, .int 0, .int 0, .int 0, .int 0, .int 0, .int 0, .int 0, .int 0, .int 0])), (q1, .inl (cF, 48, .inr (.inr (.inl (fun _ => 0))))), (q2, .inl (cF, 16, .inr (.inr (.inl (fun _ => 0)))))] H := hP
  have hD : va_D A [(h0, .inr (6, [.ref q1, .null, .null, .null, .null, .null, .null, .null, .null, .null, .null, .null, .null, .null, .null, .int 0, .int 0, .int 0, .int 0, .int 0, .int 0, .int 0, .int 0, .int 0, .int 0, .int 0])), (q1, .inl (cF, 48, .inr (.inr (.inl (fun _ => 0))))), (q2, .inl (cF, 16, .inr (.inr (.inl (fun _ => 0)))))] := hD
  refine va_putF (D := D) (ci := 6) (v := .ref q2) (ty := (.array (.float))) hx hb ht inMod tMod tMod_ok nMod hown hK hP hD hS 0 rfl rfl 1 (by decide) (ht _ kf_Mod_13) (fun _ h9 => h9) rfl hin rfl (by decide +kernel) rfl rfl (Nat.le_of_ble_eq_true rfl) dMod_init_17 (fun H locs hP hD hS => ?_)
  have hP : va_P D vwCl [(h0, .inr (6, [.ref q1, .ref q2, .null, .null, .null, .null, .null, .null, .null, .null, .null, .null, .null, .null, .null, .int 0, .int 0, .int 0, .int 0, .int 0, .int 0, .int 0, .int 0, .int 0, .int 0, .int 0])), (q1, .inl (cF, 48, .inr (.inr (.inl (fun _ => 0))))), (q2, .inl (cF, 16, .inr (.inr (.inl (fun _ => 0)))))] H := hP
  have hD : va_D A [(h0, .inr (6, [.ref q1, .ref q2, .null, .null, .null, .null, .null, .null, .null, .null, .null, .null, .null, .null, .null, .int 0, .int 0, .int 0, .int 0, .int 0, .int 0, .int 0, .int 0, .int 0, .int 0, .int 0])), (q1, .inl (cF, 48, .inr (.inr (.inl (fun _ => 0))))), (q2, .inl (cF, 16, .inr (.inr (.inl (fun _ => 0)))))] := hD
  refine lv_aload_n hx hb dMod_init_20 rfl (lv_at hl 0 rfl) ?_
  refine lv_bipush (v := 16) hx hb dMod_init_21 (by decide) ?_
  refine n_arr (ty := .float) (n := 16) (N := 16) (a0 := (16, .inr (.inr (.inl (fun _ => 0))))) 0 hx hb (ht _ ka_float) rfl hK hP hD hS hA (fun _ => rfl) (by decide) (by decide) (by decide) (Nat.le_of_ble_eq_true rfl) (Nat.le_of_ble_eq_true rfl) rfl dMod_init_23 (fun q3 H hP hD hS => ?_)
  have hP : va_P D vwCl [(h0, .inr (6, [.ref q1, .ref q2, .null, .null, .null, .null, .null, .null, .null, .null, .null, .null, .null, .null, .null, .int 0, .int 0, .int 0, .int 0, .int 0, .int 0, .int 0, .int 0, .int 0, .int 0, .int 0])), (q1, .inl (cF, 48, .inr (.inr (.inl (fun _ => 0))))), (q2, .inl (cF, 16, .inr (.inr (.inl (fun _ => 0))))), (q3, .inl (cF, 16, .inr (.inr (.inl (fun _ => 0)))))] H := hP
  have hD : va_D A [(h0, .inr (6, [.ref q1, .ref q2, .null, .null, .null, .null, .null, .null, .null, .null, .null, .null, .null, .null, .null, .int 0, .int 0, .int 0, .int 0, .int 0, .int 0, .int 0, .int 0, .int 0, .int 0, .int 0])), (q1, .inl (cF, 48, .inr (.inr (.inl (fun _ => 0))))), (q2, .inl (cF, 16, .inr (.inr (.inl (fun _ => 0))))), (q3, .inl (cF, 16, .inr (.inr (.inl (fun _ => 0)))))] := hD
  refine va_putF (D := D) (ci := 6) (v := .ref q3) (ty := (.array (.float))) hx hb ht inMod tMod tMod_ok nMod hown hK hP hD hS 0 rfl rfl 2 (by decide) (ht _ kf_Mod_16) (fun _ h9 => h9) rfl hin rfl (by decide +kernel) rfl rfl (Nat.le_of_ble_eq_true rfl) dMod_init_25 (fun H locs hP hD hS => ?_)
  have hP : va_P D vwCl [(h0, .inr (6, [.ref q1, .ref q2, .ref q3, .null, .null, .null, .null, .null, .null, .null, .null, .null, .null, .null, .null, .int 0, .int 0, .int 0, .int 0, .int 0, .int 0, .int 0, .int 0, .int 0, .int 0, .int 0])), (q1, .inl (cF, 48, .inr (.inr (.inl (fun _ => 0))))), (q2, .inl (cF, 16, .inr (.inr (.inl (fun _ => 0))))), (q3, .inl (cF, 16, .inr (.inr (.inl (fun _ => 0)))))] H := hP
  have hD : va_D A [(h0, .inr (6, [.ref q1, .ref q2, .ref q3, .null, .null, .null, .null, .null, .null, .null, .null, .null, .null, .null, .null, .int 0, .int 0, .int 0, .int 0, .int 0, .int 0, .int 0, .int 0, .int 0, .int 0, .int 0])), (q1, .inl (cF, 48, .inr (.inr (.inl (fun _ => 0))))), (q2, .inl (cF, 16, .inr (.inr (.inl (fun _ => 0))))), (q3, .inl (cF, 16, .inr (.inr (.inl (fun _ => 0)))))] := hD
  refine lv_aload_n hx hb dMod_init_28 rfl (lv_at hl 0 rfl) ?_
  refine lv_bipush (v := 16) hx hb dMod_init_29 (by decide) ?_
  refine n_arr (ty := .float) (n := 16) (N := 16) (a0 := (16, .inr (.inr (.inl (fun _ => 0))))) 0 hx hb (ht _ ka_float) rfl hK hP hD hS hA (fun _ => rfl) (by decide) (by decide) (by decide) (Nat.le_of_ble_eq_true rfl) (Nat.le_of_ble_eq_true rfl) rfl dMod_init_31 (fun q4 H hP hD hS => ?_)
  have hP : va_P D vwCl [(h0, .inr (6, [.ref q1, .ref q2, .ref q3, .null, .null, .null, .null, .null, .null, .null, .null, .null, .null, .null, .null, .int 0, .int 0, .int 0, .int 0, .int 0, .int 0, .int 0, .int 0, .int 0, .int 0, .int 0])), (q1, .inl (cF, 48, .inr (.inr (.inl (fun _ => 0))))), (q2, .inl (cF, 16, .inr (.inr (.inl (fun _ => 0))))), (q3, .inl (cF, 16, .inr (.inr (.inl (fun _ => 0))))), (q4, .inl (cF, 16, .inr (.inr (.inl (fun _ => 0)))))] H := hP
  have hD : va_D A [(h0, .inr (6, [.ref q1, .ref q2, .ref q3, .null, .null, .null, .null, .null, .null, .null, .null, .null, .null, .null, .null, .int 0, .int 0, .int 0, .int 0, .int 0, .int 0, .int 0, .int 0, .int 0, .int 0, .int 0])), (q1, .inl (cF, 48, .inr (.inr (.inl (fun _ => 0))))), (q2, .inl (cF, 16, .inr (.inr (.inl (fun _ => 0))))), (q3, .inl (cF, 16, .inr (.inr (.inl (fun _ => 0))))), (q4, .inl (cF, 16, .inr (.inr (.inl (fun _ => 0)))))] := hD
  refine va_putF (D := D) (ci := 6) (v := .ref q4) (ty := (.array (.float))) hx hb ht inMod tMod tMod_ok nMod hown hK hP hD hS 0 rfl rfl 3 (by decide) (ht _ kf_Mod_19) (fun _ h9 => h9) rfl hin rfl (by decide +kernel) rfl rfl (Nat.le_of_ble_eq_true rfl) dMod_init_33 (fun H locs hP hD hS => ?_)
  have hP : va_P D vwCl [(h0, .inr (6, [.ref q1, .ref q2, .ref q3, .ref q4, .null, .null, .null, .null, .null, .null, .null, .null, .null, .null, .null, .int 0, .int 0, .int 0, .int 0, .int 0, .int 0, .int 0, .int 0, .int 0, .int 0, .int 0])), (q1, .inl (cF, 48, .inr (.inr (.inl (fun _ => 0))))), (q2, .inl (cF, 16, .inr (.inr (.inl (fun _ => 0))))), (q3, .inl (cF, 16, .inr (.inr (.inl (fun _ => 0))))), (q4, .inl (cF, 16, .inr (.inr (.inl (fun _ => 0)))))] H := hP
  have hD : va_D A [(h0, .inr (6, [.ref q1, .ref q2, .ref q3, .ref q4, .null, .null, .null, .null, .null, .null, .null, .null, .null, .null, .null, .int 0, .int 0, .int 0, .int 0, .int 0, .int 0, .int 0, .int 0, .int 0, .int 0, .int 0])), (q1, .inl (cF, 48, .inr (.inr (.inl (fun _ => 0))))), (q2, .inl (cF, 16, .inr (.inr (.inl (fun _ => 0))))), (q3, .inl (cF, 16, .inr (.inr (.inl (fun _ => 0))))), (q4, .inl (cF, 16, .inr (.inr (.inl (fun _ => 0)))))] := hD
  refine lv_aload_n hx hb dMod_init_36 rfl (lv_at hl 0 rfl) ?_
  refine lv_bipush (v := 16) hx hb dMod_init_37 (by decide) ?_
  refine n_arr (ty := .float) (n := 16) (N := 16) (a0 := (16, .inr (.inr (.inl (fun _ => 0))))) 0 hx hb (ht _ ka_float) rfl hK hP hD hS hA (fun _ => rfl) (by decide) (by decide) (by decide) (Nat.le_of_ble_eq_true rfl) (Nat.le_of_ble_eq_true rfl) rfl dMod_init_39 (fun q5 H hP hD hS => ?_)
  have hP : va_P D vwCl [(h0, .inr (6, [.ref q1, .ref q2, .ref q3, .ref q4, .null, .null, .null, .null, .null, .null, .null, .null, .null, .null, .null, .int 0, .int 0, .int 0, .int 0, .int 0, .int 0, .int 0, .int 0, .int 0, .int 0, .int 0])), (q1, .inl (cF, 48, .inr (.inr (.inl (fun _ => 0))))), (q2, .inl (cF, 16, .inr (.inr (.inl (fun _ => 0))))), (q3, .inl (cF, 16, .inr (.inr (.inl (fun _ => 0))))), (q4, .inl (cF, 16, .inr (.inr (.inl (fun _ => 0))))), (q5, .inl (cF, 16, .inr (.inr (.inl (fun _ => 0)))))] H := hP
  have hD : va_D A [(h0, .inr (6, [.ref q1, .ref q2, .ref q3, .ref q4, .null, .null, .null, .null, .null, .null, .null, .null, .null, .null, .null, .int 0, .int 0, .int 0, .int 0, .int 0, .int 0, .int 0, .int 0, .int 0, .int 0, .int 0])), (q1, .inl (cF, 48, .inr (.inr (.inl (fun _ => 0))))), (q2, .inl (cF, 16, .inr (.inr (.inl (fun _ => 0))))), (q3, .inl (cF, 16, .inr (.inr (.inl (fun _ => 0))))), (q4, .inl (cF, 16, .inr (.inr (.inl (fun _ => 0))))), (q5, .inl (cF, 16, .inr (.inr (.inl (fun _ => 0)))))] := hD
  refine va_putF (D := D) (ci := 6) (v := .ref q5) (ty := (.array (.float))) hx hb ht inMod tMod tMod_ok nMod hown hK hP hD hS 0 rfl rfl 4 (by decide) (ht _ kf_Mod_22) (fun _ h9 => h9) rfl hin rfl (by decide +kernel) rfl rfl (Nat.le_of_ble_eq_true rfl) dMod_init_41 (fun H locs hP hD hS => ?_)
  have hP : va_P D vwCl [(h0, .inr (6, [.ref q1, .ref q2, .ref q3, .ref q4, .ref q5, .null, .null, .null, .null, .null, .null, .null, .null, .null, .null, .int 0, .int 0, .int 0, .int 0, .int 0, .int 0, .int 0, .int 0, .int 0, .int 0, .int 0])), (q1, .inl (cF, 48, .inr (.inr (.inl (fun _ => 0))))), (q2, .inl (cF, 16, .inr (.inr (.inl (fun _ => 0))))), (q3, .inl (cF, 16, .inr (.inr (.inl (fun _ => 0))))), (q4, .inl (cF, 16, .inr (.inr (.inl (fun _ => 0))))), (q5, .inl (cF, 16, .inr (.inr (.inl (fun _ => 0)))))] H := hP
  have hD : va_D A [(h0, .inr (6, [.ref q1, .ref q2, .ref q3, .ref q4, .ref q5, .null, .null, .null, .null, .null, .null, .null, .null, .null, .null, .int 0, .int 0, .int 0, .int 0, .int 0, .int 0, .int 0, .int 0, .int 0, .int 0, .int 0])), (q1, .inl (cF, 48, .inr (.inr (.inl (fun _ => 0))))), (q2, .inl (cF, 16, .inr (.inr (.inl (fun _ => 0))))), (q3, .inl (cF, 16, .inr (.inr (.inl (fun _ => 0))))), (q4, .inl (cF, 16, .inr (.inr (.inl (fun _ => 0))))), (q5, .inl (cF, 16, .inr (.inr (.inl (fun _ => 0)))))] := hD
  refine lv_aload_n hx hb dMod_init_44 rfl (lv_at hl 0 rfl) ?_
  refine lv_iconst (v := 4) hx hb dMod_init_45 (by decide) ?_
  refine n_arr (ty := .float) (n := 4) (N := 4) (a0 := (4, .inr (.inr (.inl (fun _ => 0))))) 0 hx hb (ht _ ka_float) rfl hK hP hD hS hA (fun _ => rfl) (by decide) (by decide) (by decide) (Nat.le_of_ble_eq_true rfl) (Nat.le_of_ble_eq_true rfl) rfl dMod_init_46 (fun q6 H hP hD hS => ?_)
  have hP : va_P D vwCl [(h0, .inr (6, [.ref q1, .ref q2, .ref q3, .ref q4, .ref q5, .null, .null, .null, .null, .null, .null, .null, .null, .null, .null, .int 0, .int 0, .int 0, .int 0, .int 0, .int 0, .int 0, .int 0, .int 0, .int 0, .int 0])), (q1, .inl (cF, 48, .inr (.inr (.inl (fun _ => 0))))), (q2, .inl (cF, 16, .inr (.inr (.inl (fun _ => 0))))), (q3, .inl (cF, 16, .inr (.inr (.inl (fun _ => 0))))), (q4, .inl (cF, 16, .inr (.inr (.inl (fun _ => 0))))), (q5, .inl (cF, 16, .inr (.inr (.inl (fun _ => 0))))), (q6, .inl (cF, 4, .inr (.inr (.inl (fun _ => 0)))))] H := hP
  have hD : va_D A [(h0, .inr (6, [.ref q1, .ref q2, .ref q3, .ref q4, .ref q5, .null, .null, .null, .null, .null, .null, .null, .null, .null, .null, .int 0, .int 0, .int 0, .int 0, .int 0, .int 0, .int 0, .int 0, .int 0, .int 0, .int 0])), (q1, .inl (cF, 48, .inr (.inr (.inl (fun _ => 0))))), (q2, .inl (cF, 16, .inr (.inr (.inl (fun _ => 0))))), (q3, .inl (cF, 16, .inr (.inr (.inl (fun _ => 0))))), (q4, .inl (cF, 16, .inr (.inr (.inl (fun _ => 0))))), (q5, .inl (cF, 16, .inr (.inr (.inl (fun _ => 0))))), (q6, .inl (cF, 4, .inr (.inr (.inl (fun _ => 0)))))] := hD
  refine va_putF (D := D) (ci := 6) (v := .ref q6) (ty := (.array (.float))) hx hb ht inMod tMod tMod_ok nMod hown hK hP hD hS 0 rfl rfl 5 (by decide) (ht _ kf_Mod_25) (fun _ h9 => h9) rfl hin rfl (by decide +kernel) rfl rfl (Nat.le_of_ble_eq_true rfl) dMod_init_48 (fun H locs hP hD hS => ?_)
  have hP : va_P D vwCl [(h0, .inr (6, [.ref q1, .ref q2, .ref q3, .ref q4, .ref q5, .ref q6, .null, .null, .null, .null, .null, .null, .null, .null, .null, .int 0, .int 0, .int 0, .int 0, .int 0, .int 0, .int 0, .int 0, .int 0, .int 0, .int 0])), (q1, .inl (cF, 48, .inr (.inr (.inl (fun _ => 0))))), (q2, .inl (cF, 16, .inr (.inr (.inl (fun _ => 0))))), (q3, .inl (cF, 16, .inr (.inr (.inl (fun _ => 0))))), (q4, .inl (cF, 16, .inr (.inr (.inl (fun _ => 0))))), (q5, .inl (cF, 16, .inr (.inr (.inl (fun _ => 0))))), (q6, .inl (cF, 4, .inr (.inr (.inl (fun _ => 0)))))] H := hP
  have hD : va_D A [(h0, .inr (6, [.ref q1, .ref q2, .ref q3, .ref q4, .ref q5, .ref q6, .null, .null, .null, .null, .null, .null, .null, .null, .null, .int 0, .int 0, .int 0, .int 0, .int 0, .int 0, .int 0, .int 0, .int 0, .int 0, .int 0])), (q1, .inl (cF, 48, .inr (.inr (.inl (fun _ => 0))))), (q2, .inl (cF, 16, .inr (.inr (.inl (fun _ => 0))))), (q3, .inl (cF, 16, .inr (.inr (.inl (fun _ => 0))))), (q4, .inl (cF, 16, .inr (.inr (.inl (fun _ => 0))))), (q5, .inl (cF, 16, .inr (.inr (.inl (fun _ => 0))))), (q6, .inl (cF, 4, .inr (.inr (.inl (fun _ => 0)))))] := hD
  refine lv_aload_n hx hb dMod_init_51 rfl (lv_at hl 0 rfl) ?_
  refine lv_iconst (v := 4) hx hb dMod_init_52 (by decide) ?_
  refine n_arr (ty := .float) (n := 4) (N := 4) (a0 := (4, .inr (.inr (.inl (fun _ => 0))))) 0 hx hb (ht _ ka_float) rfl hK hP hD hS hA (fun _ => rfl) (by decide) (by decide) (by decide) (Nat.le_of_ble_eq_true rfl) (Nat.le_of_ble_eq_true rfl) rfl dMod_init_53 (fun q7 H hP hD hS => ?_)
  have hP : va_P D vwCl [(h0, .inr (6, [.ref q1, .ref q2, .ref q3, .ref q4, .ref q5, .ref q6, .null, .null, .null, .null, .null, .null, .null, .null, .null, .int 0, .int 0, .int 0, .int 0, .int 0, .int 0, .int 0, .int 0, .int 0, .int 0, .int 0])), (q1, .inl (cF, 48, .inr (.inr (.inl (fun _ => 0))))), (q2, .inl (cF, 16, .inr (.inr (.inl (fun _ => 0))))), (q3, .inl (cF, 16, .inr (.inr (.inl (fun _ => 0))))), (q4, .inl (cF, 16, .inr (.inr (.inl (fun _ => 0))))), (q5, .inl (cF, 16, .inr (.inr (.inl (fun _ => 0))))), (q6, .inl (cF, 4, .inr (.inr (.inl (fun _ => 0))))), (q7, .inl (cF, 4, .inr (.inr (.inl (fun _ => 0)))))] H := hP
  have hD : va_D A [(h0, .inr (6, [.ref q1, .ref q2, .ref q3, .ref q4, .ref q5, .ref q6, .null, .null, .null, .null, .null, .null, .null, .null, .null, .int 0, .int 0, .int 0, .int 0, .int 0, .int 0, .int 0, .int 0, .int 0, .int 0, .int 0])), (q1, .inl (cF, 48, .inr (.inr (.inl (fun _ => 0))))), (q2, .inl (cF, 16, .inr (.inr (.inl (fun _ => 0))))), (q3, .inl (cF, 16, .inr (.inr (.inl (fun _ => 0))))), (q4, .inl (cF, 16, .inr (.inr (.inl (fun _ => 0))))), (q5, .inl (cF, 16, .inr (.inr (.inl (fun _ => 0))))), (q6, .inl (cF, 4, .inr (.inr (.inl (fun _ => 0))))), (q7, .inl (cF, 4, .inr (.inr (.inl (fun _ => 0)))))] := hD
  refine va_putF (D := D) (ci := 6) (v := .ref q7) (ty := (.array (.float))) hx hb ht inMod tMod tMod_ok nMod hown hK hP hD hS 0 rfl rfl 6 (by decide) (ht _ kf_Mod_28) (fun _ h9 => h9) rfl hin rfl (by decide +kernel) rfl rfl (Nat.le_of_ble_eq_true rfl) dMod_init_55 (fun H locs hP hD hS => ?_)
  have hP : va_P D vwCl [(h0, .inr (6, [.ref q1, .ref q2, .ref q3, .ref q4, .ref q5, .ref q6, .ref q7, .null, .null, .null, .null, .null, .null, .null, .null, .int 0, .int 0, .int 0, .int 0, .int 0, .int 0, .int 0, .int 0, .int 0, .int 0, .int 0])), (q1, .inl (cF, 48, .inr (.inr (.inl (fun _ => 0))))), (q2, .inl (cF, 16, .inr (.inr (.inl (fun _ => 0))))), (q3, .inl (cF, 16, .inr (.inr (.inl (fun _ => 0))))), (q4, .inl (cF, 16, .inr (.inr (.inl (fun _ => 0))))), (q5, .inl (cF, 16, .inr (.inr (.inl (fun _ => 0))))), (q6, .inl (cF, 4, .inr (.inr (.inl (fun _ => 0))))), (q7, .inl (cF, 4, .inr (.inr (.inl (fun _ => 0)))))] H := hP
  have hD : va_D A [(h0, .inr (6, [.ref q1, .ref q2, .ref q3, .ref q4, .ref q5, .ref q6, .ref q7, .null, .null, .null, .null, .null, .null, .null, .null, .int 0, .int 0, .int 0, .int 0, .int 0, .int 0, .int 0, .int 0, .int 0, .int 0, .int 0])), (q1, .inl (cF, 48, .inr (.inr (.inl (fun _ => 0))))), (q2, .inl (cF, 16, .inr (.inr (.inl (fun _ => 0))))), (q3, .inl (cF, 16, .inr (.inr (.inl (fun _ => 0))))), (q4, .inl (cF, 16, .inr (.inr (.inl (fun _ => 0))))), (q5, .inl (cF, 16, .inr (.inr (.inl (fun _ => 0))))), (q6, .inl (cF, 4, .inr (.inr (.inl (fun _ => 0))))), (q7, .inl (cF, 4, .inr (.inr (.inl (fun _ => 0)))))] := hD
  refine lv_aload_n hx hb dMod_init_58 rfl (lv_at hl 0 rfl) ?_
  refine lv_iconst (v := 5) hx hb dMod_init_59 (by decide) ?_
  refine n_arr (ty := .float) (n := 5) (N := 5) (a0 := (5, .inr (.inr (.inl (fun _ => 0))))) 0 hx hb (ht _ ka_float) rfl hK hP hD hS hA (fun _ => rfl) (by decide) (by decide) (by decide) (Nat.le_of_ble_eq_true rfl) (Nat.le_of_ble_eq_true rfl) rfl dMod_init_60 (fun q8 H hP hD hS => ?_)
  have hP : va_P D vwCl [(h0, .inr (6, [.ref q1, .ref q2, .ref q3, .ref q4, .ref q5, .ref q6, .ref q7, .null, .null, .null, .null, .null, .null, .null, .null, .int 0, .int 0, .int 0, .int 0, .int 0, .int 0, .int 0, .int 0, .int 0, .int 0, .int 0])), (q1, .inl (cF, 48, .inr (.inr (.inl (fun _ => 0))))), (q2, .inl (cF, 16, .inr (.inr (.inl (fun _ => 0))))), (q3, .inl (cF, 16, .inr (.inr (.inl (fun _ => 0))))), (q4, .inl (cF, 16, .inr (.inr (.inl (fun _ => 0))))), (q5, .inl (cF, 16, .inr (.inr (.inl (fun _ => 0))))), (q6, .inl (cF, 4, .inr (.inr (.inl (fun _ => 0))))), (q7, .inl (cF, 4, .inr (.inr (.inl (fun _ => 0))))), (q8, .inl (cF, 5, .inr (.inr (.inl (fun _ => 0)))))] H := hP
  have hD : va_D A [(h0, .inr (6, [.ref q1, .ref q2, .ref q3, .ref q4, .ref q5, .ref q6, .ref q7, .null, .null, .null, .null, .null, .null, .null, .null, .int 0, .int 0, .int 0, .int 0, .int 0, .int 0, .int 0, .int 0, .int 0, .int 0, .int 0])), (q1, .inl (cF, 48, .inr (.inr (.inl (fun _ => 0))))), (q2, .inl (cF, 16, .inr (.inr (.inl (fun _ => 0))))), (q3, .inl (cF, 16, .inr (.inr (.inl (fun _ => 0))))), (q4, .inl (cF, 16, .inr (.inr (.inl (fun _ => 0))))), (q5, .inl (cF, 16, .inr (.inr (.inl (fun _ => 0))))), (q6, .inl (cF, 4, .inr (.inr (.inl (fun _ => 0))))), (q7, .inl (cF, 4, .inr (.inr (.inl (fun _ => 0))))), (q8, .inl (cF, 5, .inr (.inr (.inl (fun _ => 0)))))] := hD
  refine va_putF (D := D) (ci := 6) (v := .ref q8) (ty := (.array (.float))) hx hb ht inMod tMod tMod_ok nMod hown hK hP hD hS 0 rfl rfl 7 (by decide) (ht _ kf_Mod_31) (fun _ h9 => h9) rfl hin rfl (by decide +kernel) rfl rfl (Nat.le_of_ble_eq_true rfl) dMod_init_62 (fun H locs hP hD hS => ?_)
  have hP : va_P D vwCl [(h0, .inr (6, [.ref q1, .ref q2, .ref q3, .ref q4, .ref q5, .ref q6, .ref q7, .ref q8, .null, .null, .null, .null, .null, .null, .null, .int 0, .int 0, .int 0, .int 0, .int 0, .int 0, .int 0, .int 0, .int 0, .int 0, .int 0])), (q1, .inl (cF, 48, .inr (.inr (.inl (fun _ => 0))))), (q2, .inl (cF, 16, .inr (.inr (.inl (fun _ => 0))))), (q3, .inl (cF, 16, .inr (.inr (.inl (fun _ => 0))))), (q4, .inl (cF, 16, .inr (.inr (.inl (fun _ => 0))))), (q5, .inl (cF, 16, .inr (.inr (.inl (fun _ => 0))))), (q6, .inl (cF, 4, .inr (.inr (.inl (fun _ => 0))))), (q7, .inl (cF, 4, .inr (.inr (.inl (fun _ => 0))))), (q8, .inl (cF, 5, .inr (.inr (.inl (fun _ => 0)))))] H := hP
  have hD : va_D A [(h0, .inr (6, [.ref q1, .ref q2, .ref q3, .ref q4, .ref q5, .ref q6, .ref q7, .ref q8, .null, .null, .null, .null, .null, .null, .null, .int 0, .int 0, .int 0, .int 0, .int 0, .int 0, .int 0, .int 0, .int 0, .int 0, .int 0])), (q1, .inl (cF, 48, .inr (.inr (.inl (fun _ => 0))))), (q2, .inl (cF, 16, .inr (.inr (.inl (fun _ => 0))))), (q3, .inl (cF, 16, .inr (.inr (.inl (fun _ => 0))))), (q4, .inl (cF, 16, .inr (.inr (.inl (fun _ => 0))))), (q5, .inl (cF, 16, .inr (.inr (.inl (fun _ => 0))))), (q6, .inl (cF, 4, .inr (.inr (.inl (fun _ => 0))))), (q7, .inl (cF, 4, .inr (.inr (.inl (fun _ => 0))))), (q8, .inl (cF, 5, .inr (.inr (.inl (fun _ => 0)))))] := hD
  refine lv_aload_n hx hb dMod_init_65 rfl (lv_at hl 0 rfl) ?_
  refine lv_iconst (v := 5) hx hb dMod_init_66 (by decide) ?_
  refine n_arr (ty := .float) (n := 5) (N := 5) (a0 := (5, .inr (.inr (.inl (fun _ => 0))))) 0 hx hb (ht _ ka_float) rfl hK hP hD hS hA (fun _ => rfl) (by decide) (by decide) (by decide) (Nat.le_of_ble_eq_true rfl) (Nat.le_of_ble_eq_true rfl) rfl dMod_init_67 (fun q9 H hP hD hS => ?_)
  have hP : va_P D vwCl [(h0, .inr (6, [.ref q1, .ref q2, .ref q3, .ref q4, .ref q5, .ref q6, .ref q7, .ref q8, .null, .null, .null, .null, .null, .null, .null, .int 0, .int 0, .int 0, .int 0, .int 0, .int 0, .int 0, .int 0, .int 0, .int 0, .int 0])), (q1, .inl (cF, 48, .inr (.inr (.inl (fun _ => 0))))), (q2, .inl (cF, 16, .inr (.inr (.inl (fun _ => 0))))), (q3, .inl (cF, 16, .inr (.inr (.inl (fun _ => 0))))), (q4, .inl (cF, 16, .inr (.inr (.inl (fun _ => 0))))), (q5, .inl (cF, 16, .inr (.inr (.inl (fun _ => 0))))), (q6, .inl (cF, 4, .inr (.inr (.inl (fun _ => 0))))), (q7, .inl (cF, 4, .inr (.inr (.inl (fun _ => 0))))), (q8, .inl (cF, 5, .inr (.inr (.inl (fun _ => 0))))), (q9, .inl (cF, 5, .inr (.inr (.inl (fun _ => 0)))))] H := hP
  have hD : va_D A [(h0, .inr (6, [.ref q1, .ref q2, .ref q3, .ref q4, .ref q5, .ref q6, .ref q7, .ref q8, .null, .null, .null, .null, .null, .null, .null, .int 0, .int 0, .int 0, .int 0, .int 0, .int 0, .int 0, .int 0, .int 0, .int 0, .int 0])), (q1, .inl (cF, 48, .inr (.inr (.inl (fun _ => 0))))), (q2, .inl (cF, 16, .inr (.inr (.inl (fun _ => 0))))), (q3, .inl (cF, 16, .inr (.inr (.inl (fun _ => 0))))), (q4, .inl (cF, 16, .inr (.inr (.inl (fun _ => 0))))), (q5, .inl (cF, 16, .inr (.inr (.inl (fun _ => 0))))), (q6, .inl (cF, 4, .inr (.inr (.inl (fun _ => 0))))), (q7, .inl (cF, 4, .inr (.inr (.inl (fun _ => 0))))), (q8, .inl (cF, 5, .inr (.inr (.inl (fun _ => 0))))), (q9, .inl (cF, 5, .inr (.inr (.inl (fun _ => 0)))))] := hD
  refine va_putF (D := D) (ci := 6) (v := .ref q9) (ty := (.array (.float))) hx hb ht inMod tMod tMod_ok nMod hown hK hP hD hS 0 rfl rfl 8 (by decide) (ht _ kf_Mod_34) (fun _ h9 => h9) rfl hin rfl (by decide +kernel) rfl rfl (Nat.le_of_ble_eq_true rfl) dMod_init_69 (fun H locs hP hD hS => ?_)
  have hP : va_P D vwCl [(h0, .inr (6, [.ref q1, .ref q2, .ref q3, .ref q4, .ref q5, .ref q6, .ref q7, .ref q8, .ref q9, .null, .null, .null, .null, .null, .null, .int 0, .int 0, .int 0, .int 0, .int 0, .int 0, .int 0, .int 0, .int 0, .int 0, .int 0])), (q1, .inl (cF, 48, .inr (.inr (.inl (fun _ => 0))))), (q2, .inl (cF, 16, .inr (.inr (.inl (fun _ => 0))))), (q3, .inl (cF, 16, .inr (.inr (.inl (fun _ => 0))))), (q4, .inl (cF, 16, .inr (.inr (.inl (fun _ => 0))))), (q5, .inl (cF, 16, .inr (.inr (.inl (fun _ => 0))))), (q6, .inl (cF, 4, .inr (.inr (.inl (fun _ => 0))))), (q7, .inl (cF, 4, .inr (.inr (.inl (fun _ => 0))))), (q8, .inl (cF, 5, .inr (.inr (.inl (fun _ => 0))))), (q9, .inl (cF, 5, .inr (.inr (.inl (fun _ => 0)))))] H := hP
  have hD : va_D A [(h0, .inr (6, [.ref q1, .ref q2, .ref q3, .ref q4, .ref q5, .ref q6, .ref q7, .ref q8, .ref q9, .null, .null, .null, .null, .null, .null, .int 0, .int 0, .int 0, .int 0, .int 0, .int 0, .int 0, .int 0, .int 0, .int 0, .int 0])), (q1, .inl (cF, 48, .inr (.inr (.inl (fun _ => 0))))), (q2, .inl (cF, 16, .inr (.inr (.inl (fun _ => 0))))), (q3, .inl (cF, 16, .inr (.inr (.inl (fun _ => 0))))), (q4, .inl (cF, 16, .inr (.inr (.inl (fun _ => 0))))), (q5, .inl (cF, 16, .inr (.inr (.inl (fun _ => 0))))), (q6, .inl (cF, 4, .inr (.inr (.inl (fun _ => 0))))), (q7, .inl (cF, 4, .inr (.inr (.inl (fun _ => 0))))), (q8, .inl (cF, 5, .inr (.inr (.inl (fun _ => 0))))), (q9, .inl (cF, 5, .inr (.inr (.inl (fun _ => 0)))))] := hD
  refine lv_aload_n hx hb dMod_init_72 rfl (lv_at hl 0 rfl) ?_
  refine lv_iconst (v := 5) hx hb dMod_init_73 (by decide) ?_
  refine n_arr (ty := .float) (n := 5) (N := 5) (a0 := (5, .inr (.inr (.inl (fun _ => 0))))) 0 hx hb (ht _ ka_float) rfl hK hP hD hS hA (fun _ => rfl) (by decide) (by decide) (by decide) (Nat.le_of_ble_eq_true rfl) (Nat.le_of_ble_eq_true rfl) rfl dMod_init_74 (fun q10 H hP hD hS => ?_)
  have hP : va_P D vwCl [(h0, .inr (6, [.ref q1, .ref q2, .ref q3, .ref q4, .ref q5, .ref q6, .ref q7, .ref q8, .ref q9, .null, .null, .null, .null, .null, .null, .int 0, .int 0, .int 0, .int 0, .int 0, .int 0, .int 0, .int 0, .int 0, .int 0, .int 0])), (q1, .inl (cF, 48, .inr (.inr (.inl (fun _ => 0))))), (q2, .inl (cF, 16, .inr (.inr (.inl (fun _ => 0))))), (q3, .inl (cF, 16, .inr (.inr (.inl (fun _ => 0))))), (q4, .inl (cF, 16, .inr (.inr (.inl (fun _ => 0))))), (q5, .inl (cF, 16, .inr (.inr (.inl (fun _ => 0))))), (q6, .inl (cF, 4, .inr (.inr (.inl (fun _ => 0))))), (q7, .inl (cF, 4, .inr (.inr (.inl (fun _ => 0))))), (q8, .inl (cF, 5, .inr (.inr (.inl (fun _ => 0))))), (q9, .inl (cF, 5, .inr (.inr (.inl (fun _ => 0))))), (q10, .inl (cF, 5, .inr (.inr (.inl (fun _ => 0)))))] H := hP
  have hD : va_D A [(h0, .inr (6, [.ref q1, .ref q2, .ref q3, .ref q4, .ref q5, .ref q6, .ref q7, .ref q8, .ref q9, .null, .null, .null, .null, .null, .null, .int 0, .int 0, .int 0, .int 0, .int 0, .int 0, .int 0, .int 0, .int 0, .int 0, .int 0])), (q1, .inl (cF, 48, .inr (.inr (.inl (fun _ => 0))))), (q2, .inl (cF, 16, .inr (.inr (.inl (fun _ => 0))))), (q3, .inl (cF, 16, .inr (.inr (.inl (fun _ => 0))))), (q4, .inl (cF, 16, .inr (.inr (.inl (fun _ => 0))))), (q5, .inl (cF, 16, .inr (.inr (.inl (fun _ => 0))))), (q6, .inl (cF, 4, .inr (.inr (.inl (fun _ => 0))))), (q7, .inl (cF, 4, .inr (.inr (.inl (fun _ => 0))))), (q8, .inl (cF, 5, .inr (.inr (.inl (fun _ => 0))))), (q9, .inl (cF, 5, .inr (.inr (.inl (fun _ => 0))))), (q10, .inl (cF, 5, .inr (.inr (.inl (fun _ => 0)))))] := hD
  refine va_putF (D := D) (ci := 6) (v := .ref q10) (ty := (.array (.float))) hx hb ht inMod tMod tMod_ok nMod hown hK hP hD hS 0 rfl rfl 9 (by decide) (ht _ kf_Mod_37) (fun _ h9 => h9) rfl hin rfl (by decide +kernel) rfl rfl (Nat.le_of_ble_eq_true rfl) dMod_init_76 (fun H locs hP hD hS => ?_)
  have hP : va_P D vwCl [(h0, .inr (6, [.ref q1, .ref q2, .ref q3, .ref q4, .ref q5, .ref q6, .ref q7, .ref q8, .ref q9, .ref q10, .null, .null, .null, .null, .null, .int 0, .int 0, .int 0, .int 0, .int 0, .int 0, .int 0, .int 0, .int 0, .int 0, .int 0])), (q1, .inl (cF, 48, .inr (.inr (.inl (fun _ => 0))))), (q2, .inl (cF, 16, .inr (.inr (.inl (fun _ => 0))))), (q3, .inl (cF, 16, .inr (.inr (.inl (fun _ => 0))))), (q4, .inl (cF, 16, .inr (.inr (.inl (fun _ => 0))))), (q5, .inl (cF, 16, .inr (.inr (.inl (fun _ => 0))))), (q6, .inl (cF, 4, .inr (.inr (.inl (fun _ => 0))))), (q7, .inl (cF, 4, .inr (.inr (.inl (fun _ => 0))))), (q8, .inl (cF, 5, .inr (.inr (.inl (fun _ => 0))))), (q9, .inl (cF, 5, .inr (.inr (.inl (fun _ => 0))))), (q10, .inl (cF, 5, .inr (.inr (.inl (fun _ => 0)))))] H := hP
  have hD : va_D A [(h0, .inr (6, [.ref q1, .ref q2, .ref q3, .ref q4, .ref q5, .ref q6, .ref q7, .ref q8, .ref q9, .ref q10, .null, .null, .null, .null, .null, .int 0, .int 0, .int 0, .int 0, .int 0, .int 0, .int 0, .int 0, .int 0, .int 0, .int 0])), (q1, .inl (cF, 48, .inr (.inr (.inl (fun _ => 0))))), (q2, .inl (cF, 16, .inr (.inr (.inl (fun _ => 0))))), (q3, .inl (cF, 16, .inr (.inr (.inl (fun _ => 0))))), (q4, .inl (cF, 16, .inr (.inr (.inl (fun _ => 0))))), (q5, .inl (cF, 16, .inr (.inr (.inl (fun _ => 0))))), (q6, .inl (cF, 4, .inr (.inr (.inl (fun _ => 0))))), (q7, .inl (cF, 4, .inr (.inr (.inl (fun _ => 0))))), (q8, .inl (cF, 5, .inr (.inr (.inl (fun _ => 0))))), (q9, .inl (cF, 5, .inr (.inr (.inl (fun _ => 0))))), (q10, .inl (cF, 5, .inr (.inr (.inl (fun _ => 0)))))] := hD
  refine lv_aload_n hx hb dMod_init_79 rfl (lv_at hl 0 rfl) ?_
  refine lv_iconst (v := 5) hx hb dMod_init_80 (by decide) ?_
  refine n_arr (ty := .float) (n := 5) (N := 5) (a0 := (5, .inr (.inr (.inl (fun _ => 0))))) 0 hx hb (ht _ ka_float) rfl hK hP hD hS hA (fun _ => rfl) (by decide) (by decide) (by decide) (Nat.le_of_ble_eq_true rfl) (Nat.le_of_ble_eq_true rfl) rfl dMod_init_81 (fun q11 H hP hD hS => ?_)
  have hP : va_P D vwCl [(h0, .inr (6, [.ref q1, .ref q2, .ref q3, .ref q4, .ref q5, .ref q6, .ref q7, .ref q8, .ref q9, .ref q10, .null, .null, .null, .null, .null, .int 0, .int 0, .int 0, .int 0, .int 0, .int 0, .int 0, .int 0, .int 0, .int 0, .int 0])), (q1, .inl (cF, 48, .inr (.inr (.inl (fun _ => 0))))), (q2, .inl (cF, 16, .inr (.inr (.inl (fun _ => 0))))), (q3, .inl (cF, 16, .inr (.inr (.inl (fun _ => 0))))), (q4, .inl (cF, 16, .inr (.inr (.inl (fun _ => 0))))), (q5, .inl (cF, 16, .inr (.inr (.inl (fun _ => 0))))), (q6, .inl (cF, 4, .inr (.inr (.inl (fun _ => 0))))), (q7, .inl (cF, 4, .inr (.inr (.inl (fun _ => 0))))), (q8, .inl (cF, 5, .inr (.inr (.inl (fun _ => 0))))), (q9, .inl (cF, 5, .inr (.inr (.inl (fun _ => 0))))), (q10, .inl (cF, 5, .inr (.inr (.inl (fun _ => 0))))), (q11, .inl (cF, 5, .inr (.inr (.inl (fun _ => 0)))))] H := hP
  have hD : va_D A [(h0, .inr (6, [.ref q1, .ref q2, .ref q3, .ref q4, .ref q5, .ref q6, .ref q7, .ref q8, .ref q9, .ref q10, .null, .null, .null, .null, .null, .int 0, .int 0, .int 0, .int 0, .int 0, .int 0, .int 0, .int 0, .int 0, .int 0, .int 0])), (q1, .inl (cF, 48, .inr (.inr (.inl (fun _ => 0))))), (q2, .inl (cF, 16, .inr (.inr (.inl (fun _ => 0))))), (q3, .inl (cF, 16, .inr (.inr (.inl (fun _ => 0))))), (q4, .inl (cF, 16, .inr (.inr (.inl (fun _ => 0))))), (q5, .inl (cF, 16, .inr (.inr (.inl (fun _ => 0))))), (q6, .inl (cF, 4, .inr (.inr (.inl (fun _ => 0))))), (q7, .inl (cF, 4, .inr (.inr (.inl (fun _ => 0))))), (q8, .inl (cF, 5, .inr (.inr (.inl (fun _ => 0))))), (q9, .inl (cF, 5, .inr (.inr (.inl (fun _ => 0))))), (q10, .inl (cF, 5, .inr (.inr (.inl (fun _ => 0))))), (q11, .inl (cF, 5, .inr (.inr (.inl (fun _ => 0)))))] := hD
  refine va_putF (D := D) (ci := 6) (v := .ref q11) (ty := (.array (.float))) hx hb ht inMod tMod tMod_ok nMod hown hK hP hD hS 0 rfl rfl 10 (by decide) (ht _ kf_Mod_40) (fun _ h9 => h9) rfl hin rfl (by decide +kernel) rfl rfl (Nat.le_of_ble_eq_true rfl) dMod_init_83 (fun H locs hP hD hS => ?_)
  have hP : va_P D vwCl [(h0, .inr (6, [.ref q1, .ref q2, .ref q3, .ref q4, .ref q5, .ref q6, .ref q7, .ref q8, .ref q9, .ref q10, .ref q11, .null, .null, .null, .null, .int 0, .int 0, .int 0, .int 0, .int 0, .int 0, .int 0, .int 0, .int 0, .int 0, .int 0])), (q1, .inl (cF, 48, .inr (.inr (.inl (fun _ => 0))))), (q2, .inl (cF, 16, .inr (.inr (.inl (fun _ => 0))))), (q3, .inl (cF, 16, .inr (.inr (.inl (fun _ => 0))))), (q4, .inl (cF, 16, .inr (.inr (.inl (fun _ => 0))))), (q5, .inl (cF, 16, .inr (.inr (.inl (fun _ => 0))))), (q6, .inl (cF, 4, .inr (.inr (.inl (fun _ => 0))))), (q7, .inl (cF, 4, .inr (.inr (.inl (fun _ => 0))))), (q8, .inl (cF, 5, .inr (.inr (.inl (fun _ => 0))))), (q9, .inl (cF, 5, .inr (.inr (.inl (fun _ => 0))))), (q10, .inl (cF, 5, .inr (.inr (.inl (fun _ => 0))))), (q11, .inl (cF, 5, .inr (.inr (.inl (fun _ => 0)))))] H := hP
  have hD : va_D A [(h0, .inr (6, [.ref q1, .ref q2, .ref q3, .ref q4, .ref q5, .ref q6, .ref q7, .ref q8, .ref q9, .ref q10, .ref q11, .null, .null, .null, .null, .int 0, .int 0, .int 0, .int 0, .int 0, .int 0, .int 0, .int 0, .int 0, .int 0, .int 0])), (q1, .inl (cF, 48, .inr (.inr (.inl (fun _ => 0))))), (q2, .inl (cF, 16, .inr (.inr (.inl (fun _ => 0))))), (q3, .inl (cF, 16, .inr (.inr (.inl (fun _ => 0))))), (q4, .inl (cF, 16, .inr (.inr (.inl (fun _ => 0))))), (q5, .inl (cF, 16, .inr (.inr (.inl (fun _ => 0))))), (q6, .inl (cF, 4, .inr (.inr (.inl (fun _ => 0))))), (q7, .inl (cF, 4, .inr (.inr (.inl (fun _ => 0))))), (q8, .inl (cF, 5, .inr (.inr (.inl (fun _ => 0))))), (q9, .inl (cF, 5, .inr (.inr (.inl (fun _ => 0))))), (q10, .inl (cF, 5, .inr (.inr (.inl (fun _ => 0))))), (q11, .inl (cF, 5, .inr (.inr (.inl (fun _ => 0)))))] := hD
  refine lv_aload_n hx hb dMod_init_86 rfl (lv_at hl 0 rfl) ?_
  refine lv_bipush (v := 120) hx hb dMod_init_87 (by decide) ?_
  refine n_arr (ty := .int) (n := 120) (N := 120) (a0 := (120, .inl (fun _ => 0))) 1 hx hb (ht _ ka_int) rfl hK hP hD hS hA (fun _ => rfl) (by decide) (by decide) (by decide) (Nat.le_of_ble_eq_true rfl) (Nat.le_of_ble_eq_true rfl) rfl dMod_init_89 (fun q12 H hP hD hS => ?_)
  have hP : va_P D vwCl [(h0, .inr (6, [.ref q1, .ref q2, .ref q3, .ref q4, .ref q5, .ref q6, .ref q7, .ref q8, .ref q9, .ref q10, .ref q11, .null, .null, .null, .null, .int 0, .int 0, .int 0, .int 0, .int 0, .int 0, .int 0, .int 0, .int 0, .int 0, .int 0])), (q1, .inl (cF, 48, .inr (.inr (.inl (fun _ => 0))))), (q2, .inl (cF, 16, .inr (.inr (.inl (fun _ => 0))))), (q3, .inl (cF, 16, .inr (.inr (.inl (fun _ => 0))))), (q4, .inl (cF, 16, .inr (.inr (.inl (fun _ => 0))))), (q5, .inl (cF, 16, .inr (.inr (.inl (fun _ => 0))))), (q6, .inl (cF, 4, .inr (.inr (.inl (fun _ => 0))))), (q7, .inl (cF, 4, .inr (.inr (.inl (fun _ => 0))))), (q8, .inl (cF, 5, .inr (.inr (.inl (fun _ => 0))))), (q9, .inl (cF, 5, .inr (.inr (.inl (fun _ => 0))))), (q10, .inl (cF, 5, .inr (.inr (.inl (fun _ => 0))))), (q11, .inl (cF, 5, .inr (.inr (.inl (fun _ => 0))))), (q12, .inl (cI, 120, .inl (fun _ => 0)))] H := hP
  have hD : va_D A [(h0, .inr (6, [.ref q1, .ref q2, .ref q3, .ref q4, .ref q5, .ref q6, .ref q7, .ref q8, .ref q9, .ref q10, .ref q11, .null, .null, .null, .null, .int 0, .int 0, .int 0, .int 0, .int 0, .int 0, .int 0, .int 0, .int 0, .int 0, .int 0])), (q1, .inl (cF, 48, .inr (.inr (.inl (fun _ => 0))))), (q2, .inl (cF, 16, .inr (.inr (.inl (fun _ => 0))))), (q3, .inl (cF, 16, .inr (.inr (.inl (fun _ => 0))))), (q4, .inl (cF, 16, .inr (.inr (.inl (fun _ => 0))))), (q5, .inl (cF, 16, .inr (.inr (.inl (fun _ => 0))))), (q6, .inl (cF, 4, .inr (.inr (.inl (fun _ => 0))))), (q7, .inl (cF, 4, .inr (.inr (.inl (fun _ => 0))))), (q8, .inl (cF, 5, .inr (.inr (.inl (fun _ => 0))))), (q9, .inl (cF, 5, .inr (.inr (.inl (fun _ => 0))))), (q10, .inl (cF, 5, .inr (.inr (.inl (fun _ => 0))))), (q11, .inl (cF, 5, .inr (.inr (.inl (fun _ => 0))))), (q12, .inl (cI, 120, .inl (fun _ => 0)))] := hD
  refine va_putF (D := D) (ci := 6) (v := .ref q12) (ty := (.array (.int))) hx hb ht inMod tMod tMod_ok nMod hown hK hP hD hS 0 rfl rfl 11 (by decide) (ht _ kf_Mod_43) (fun _ h9 => h9) rfl hin rfl (by decide +kernel) rfl rfl (Nat.le_of_ble_eq_true rfl) dMod_init_91 (fun H locs hP hD hS => ?_)
  have hP : va_P D vwCl [(h0, .inr (6, [.ref q1, .ref q2, .ref q3, .ref q4, .ref q5, .ref q6, .ref q7, .ref q8, .ref q9, .ref q10, .ref q11, .ref q12, .null, .null, .null, .int 0, .int 0, .int 0, .int 0, .int 0, .int 0, .int 0, .int 0, .int 0, .int 0, .int 0])), (q1, .inl (cF, 48, .inr (.inr (.inl (fun _ => 0))))), (q2, .inl (cF, 16, .inr (.inr (.inl (fun _ => 0))))), (q3, .inl (cF, 16, .inr (.inr (.inl (fun _ => 0))))), (q4, .inl (cF, 16, .inr (.inr (.inl (fun _ => 0))))), (q5, .inl (cF, 16, .inr (.inr (.inl (fun _ => 0))))), (q6, .inl (cF, 4, .inr (.inr (.inl (fun _ => 0))))), (q7, .inl (cF, 4, .inr (.inr (.inl (fun _ => 0))))), (q8, .inl (cF, 5, .inr (.inr (.inl (fun _ => 0))))), (q9, .inl (cF, 5, .inr (.inr (.inl (fun _ => 0))))), (q10, .inl (cF, 5, .inr (.inr (.inl (fun _ => 0))))), (q11, .inl (cF, 5, .inr (.inr (.inl (fun _ => 0))))), (q12, .inl (cI, 120, .inl (fun _ => 0)))] H := hP
  have hD : va_D A [(h0, .inr (6, [.ref q1, .ref q2, .ref q3, .ref q4, .ref q5, .ref q6, .ref q7, .ref q8, .ref q9, .ref q10, .ref q11, .ref q12, .null, .null, .null, .int 0, .int 0, .int 0, .int 0, .int 0, .int 0, .int 0, .int 0, .int 0, .int 0, .int 0])), (q1, .inl (cF, 48, .inr (.inr (.inl (fun _ => 0))))), (q2, .inl (cF, 16, .inr (.inr (.inl (fun _ => 0))))), (q3, .inl (cF, 16, .inr (.inr (.inl (fun _ => 0))))), (q4, .inl (cF, 16, .inr (.inr (.inl (fun _ => 0))))), (q5, .inl (cF, 16, .inr (.inr (.inl (fun _ => 0))))), (q6, .inl (cF, 4, .inr (.inr (.inl (fun _ => 0))))), (q7, .inl (cF, 4, .inr (.inr (.inl (fun _ => 0))))), (q8, .inl (cF, 5, .inr (.inr (.inl (fun _ => 0))))), (q9, .inl (cF, 5, .inr (.inr (.inl (fun _ => 0))))), (q10, .inl (cF, 5, .inr (.inr (.inl (fun _ => 0))))), (q11, .inl (cF, 5, .inr (.inr (.inl (fun _ => 0))))), (q12, .inl (cI, 120, .inl (fun _ => 0)))] := hD
  refine lv_aload_n hx hb dMod_init_94 rfl (lv_at hl 0 rfl) ?_
  refine lv_bipush (v := 16) hx hb dMod_init_95 (by decide) ?_
  refine n_arr (ty := .int) (n := 16) (N := 16) (a0 := (16, .inl (fun _ => 0))) 1 hx hb (ht _ ka_int) rfl hK hP hD hS hA (fun _ => rfl) (by decide) (by decide) (by decide) (Nat.le_of_ble_eq_true rfl) (Nat.le_of_ble_eq_true rfl) rfl dMod_init_97 (fun q13 H hP hD hS => ?_)
  have hP : va_P D vwCl [(h0, .inr (6, [.ref q1, .ref q2, .ref q3, .ref q4, .ref q5, .ref q6, .ref q7, .ref q8, .ref q9, .ref q10, .ref q11, .ref q12, .null, .null, .null, .int 0, .int 0, .int 0, .int 0, .int 0, .int 0, .int 0, .int 0, .int 0, .int 0, .int 0])), (q1, .inl (cF, 48, .inr (.inr (.inl (fun _ => 0))))), (q2, .inl (cF, 16, .inr (.inr (.inl (fun _ => 0))))), (q3, .inl (cF, 16, .inr (.inr (.inl (fun _ => 0))))), (q4, .inl (cF, 16, .inr (.inr (.inl (fun _ => 0))))), (q5, .inl (cF, 16, .inr (.inr (.inl (fun _ => 0))))), (q6, .inl (cF, 4, .inr (.inr (.inl (fun _ => 0))))), (q7, .inl (cF, 4, .inr (.inr (.inl (fun _ => 0))))), (q8, .inl (cF, 5, .inr (.inr (.inl (fun _ => 0))))), (q9, .inl (cF, 5, .inr (.inr (.inl (fun _ => 0))))), (q10, .inl (cF, 5, .inr (.inr (.inl (fun _ => 0))))), (q11, .inl (cF, 5, .inr (.inr (.inl (fun _ => 0))))), (q12, .inl (cI, 120, .inl (fun _ => 0))), (q13, .inl (cI, 16, .inl (fun _ => 0)))] H := hP
  have hD : va_D A [(h0, .inr (6, [.ref q1, .ref q2, .ref q3, .ref q4, .ref q5, .ref q6, .ref q7, .ref q8, .ref q9, .ref q10, .ref q11, .ref q12, .null, .null, .null, .int 0, .int 0, .int 0, .int 0, .int 0, .int 0, .int 0, .int 0, .int 0, .int 0, .int 0])), (q1, .inl (cF, 48, .inr (.inr (.inl (fun _ => 0))))), (q2, .inl (cF, 16, .inr (.inr (.inl (fun _ => 0))))), (q3, .inl (cF, 16, .inr (.inr (.inl (fun _ => 0))))), (q4, .inl (cF, 16, .inr (.inr (.inl (fun _ => 0))))), (q5, .inl (cF, 16, .inr (.inr (.inl (fun _ => 0))))), (q6, .inl (cF, 4, .inr (.inr (.inl (fun _ => 0))))), (q7, .inl (cF, 4, .inr (.inr (.inl (fun _ => 0))))), (q8, .inl (cF, 5, .inr (.inr (.inl (fun _ => 0))))), (q9, .inl (cF, 5, .inr (.inr (.inl (fun _ => 0))))), (q10, .inl (cF, 5, .inr (.inr (.inl (fun _ => 0))))), (q11, .inl (cF, 5, .inr (.inr (.inl (fun _ => 0))))), (q12, .inl (cI, 120, .inl (fun _ => 0))), (q13, .inl (cI, 16, .inl (fun _ => 0)))] := hD
  refine va_putF (D := D) (ci := 6) (v := .ref q13) (ty := (.array (.int))) hx hb ht inMod tMod tMod_ok nMod hown hK hP hD hS 0 rfl rfl 12 (by decide) (ht _ kf_Mod_47) (fun _ h9 => h9) rfl hin rfl (by decide +kernel) rfl rfl (Nat.le_of_ble_eq_true rfl) dMod_init_99 (fun H locs hP hD hS => ?_)
  have hP : va_P D vwCl [(h0, .inr (6, [.ref q1, .ref q2, .ref q3, .ref q4, .ref q5, .ref q6, .ref q7, .ref q8, .ref q9, .ref q10, .ref q11, .ref q12, .ref q13, .null, .null, .int 0, .int 0, .int 0, .int 0, .int 0, .int 0, .int 0, .int 0, .int 0, .int 0, .int 0])), (q1, .inl (cF, 48, .inr (.inr (.inl (fun _ => 0))))), (q2, .inl (cF, 16, .inr (.inr (.inl (fun _ => 0))))), (q3, .inl (cF, 16, .inr (.inr (.inl (fun _ => 0))))), (q4, .inl (cF, 16, .inr (.inr (.inl (fun _ => 0))))), (q5, .inl (cF, 16, .inr (.inr (.inl (fun _ => 0))))), (q6, .inl (cF, 4, .inr (.inr (.inl (fun _ => 0))))), (q7, .inl (cF, 4, .inr (.inr (.inl (fun _ => 0))))), (q8, .inl (cF, 5, .inr (.inr (.inl (fun _ => 0))))), (q9, .inl (cF, 5, .inr (.inr (.inl (fun _ => 0))))), (q10, .inl (cF, 5, .inr (.inr (.inl (fun _ => 0))))), (q11, .inl (cF, 5, .inr (.inr (.inl (fun _ => 0))))), (q12, .inl (cI, 120, .inl (fun _ => 0))), (q13, .inl (cI, 16, .inl (fun _ => 0)))] H := hP
  have hD : va_D A [(h0, .inr (6, [.ref q1, .ref q2, .ref q3, .ref q4, .ref q5, .ref q6, .ref q7, .ref q8, .ref q9, .ref q10, .ref q11, .ref q12, .ref q13, .null, .null, .int 0, .int 0, .int 0, .int 0, .int 0, .int 0, .int 0, .int 0, .int 0, .int 0, .int 0])), (q1, .inl (cF, 48, .inr (.inr (.inl (fun _ => 0))))), (q2, .inl (cF, 16, .inr (.inr (.inl (fun _ => 0))))), (q3, .inl (cF, 16, .inr (.inr (.inl (fun _ => 0))))), (q4, .inl (cF, 16, .inr (.inr (.inl (fun _ => 0))))), (q5, .inl (cF, 16, .inr (.inr (.inl (fun _ => 0))))), (q6, .inl (cF, 4, .inr (.inr (.inl (fun _ => 0))))), (q7, .inl (cF, 4, .inr (.inr (.inl (fun _ => 0))))), (q8, .inl (cF, 5, .inr (.inr (.inl (fun _ => 0))))), (q9, .inl (cF, 5, .inr (.inr (.inl (fun _ => 0))))), (q10, .inl (cF, 5, .inr (.inr (.inl (fun _ => 0))))), (q11, .inl (cF, 5, .inr (.inr (.inl (fun _ => 0))))), (q12, .inl (cI, 120, .inl (fun _ => 0))), (q13, .inl (cI, 16, .inl (fun _ => 0)))] := hD
  refine lv_aload_n hx hb dMod_init_102 rfl (lv_at hl 0 rfl) ?_
  refine lv_iconst (v := 5) hx hb dMod_init_103 (by decide) ?_
  refine n_arr (ty := .int) (n := 5) (N := 5) (a0 := (5, .inl (fun _ => 0))) 1 hx hb (ht _ ka_int) rfl hK hP hD hS hA (fun _ => rfl) (by decide) (by decide) (by decide) (Nat.le_of_ble_eq_true rfl) (Nat.le_of_ble_eq_true rfl) rfl dMod_init_104 (fun q14 H hP hD hS => ?_)
  have hP : va_P D vwCl [(h0, .inr (6, [.ref q1, .ref q2, .ref q3, .ref q4, .ref q5, .ref q6, .ref q7, .ref q8, .ref q9, .ref q10, .ref q11, .ref q12, .ref q13, .null, .null, .int 0, .int 0, .int 0, .int 0, .int 0, .int 0, .int 0, .int 0, .int 0, .int 0, .int 0])), (q1, .inl (cF, 48, .inr (.inr (.inl (fun _ => 0))))), (q2, .inl (cF, 16, .inr (.inr (.inl (fun _ => 0))))), (q3, .inl (cF, 16, .inr (.inr (.inl (fun _ => 0))))), (q4, .inl (cF, 16, .inr (.inr (.inl (fun _ => 0))))), (q5, .inl (cF, 16, .inr (.inr (.inl (fun _ => 0))))), (q6, .inl (cF, 4, .inr (.inr (.inl (fun _ => 0))))), (q7, .inl (cF, 4, .inr (.inr (.inl (fun _ => 0))))), (q8, .inl (cF, 5, .inr (.inr (.inl (fun _ => 0))))), (q9, .inl (cF, 5, .inr (.inr (.inl (fun _ => 0))))), (q10, .inl (cF, 5, .inr (.inr (.inl (fun _ => 0))))), (q11, .inl (cF, 5, .inr (.inr (.inl (fun _ => 0))))), (q12, .inl (cI, 120, .inl (fun _ => 0))), (q13, .inl (cI, 16, .inl (fun _ => 0))), (q14, .inl (cI, 5, .inl (fun _ => 0)))] H := hP
  have hD : va_D A [(h0, .inr (6, [.ref q1, .ref q2, .ref q3, .ref q4, .ref q5, .ref q6, .ref q7, .ref q8, .ref q9, .ref q10, .ref q11, .ref q12, .ref q13, .null, .null, .int 0, .int 0, .int 0, .int 0, .int 0, .int 0, .int 0, .int 0, .int 0, .int 0, .int 0])), (q1, .inl (cF, 48, .inr (.inr (.inl (fun _ => 0))))), (q2, .inl (cF, 16, .inr (.inr (.inl (fun _ => 0))))), (q3, .inl (cF, 16, .inr (.inr (.inl (fun _ => 0))))), (q4, .inl (cF, 16, .inr (.inr (.inl (fun _ => 0))))), (q5, .inl (cF, 16, .inr (.inr (.inl (fun _ => 0))))), (q6, .inl (cF, 4, .inr (.inr (.inl (fun _ => 0))))), (q7, .inl (cF, 4, .inr (.inr (.inl (fun _ => 0))))), (q8, .inl (cF, 5, .inr (.inr (.inl (fun _ => 0))))), (q9, .inl (cF, 5, .inr (.inr (.inl (fun _ => 0))))), (q10, .inl (cF, 5, .inr (.inr (.inl (fun _ => 0))))), (q11, .inl (cF, 5, .inr (.inr (.inl (fun _ => 0))))), (q12, .inl (cI, 120, .inl (fun _ => 0))), (q13, .inl (cI, 16, .inl (fun _ => 0))), (q14, .inl (cI, 5, .inl (fun _ => 0)))] := hD
  refine va_putF (D := D) (ci := 6) (v := .ref q14) (ty := (.array (.int))) hx hb ht inMod tMod tMod_ok nMod hown hK hP hD hS 0 rfl rfl 13 (by decide) (ht _ kf_Mod_50) (fun _ h9 => h9) rfl hin rfl (by decide +kernel) rfl rfl (Nat.le_of_ble_eq_true rfl) dMod_init_106 (fun H locs hP hD hS => ?_)
  have hP : va_P D vwCl [(h0, .inr (6, [.ref q1, .ref q2, .ref q3, .ref q4, .ref q5, .ref q6, .ref q7, .ref q8, .ref q9, .ref q10, .ref q11, .ref q12, .ref q13, .ref q14, .null, .int 0, .int 0, .int 0, .int 0, .int 0, .int 0, .int 0, .int 0, .int 0, .int 0, .int 0])), (q1, .inl (cF, 48, .inr (.inr (.inl (fun _ => 0))))), (q2, .inl (cF, 16, .inr (.inr (.inl (fun _ => 0))))), (q3, .inl (cF, 16, .inr (.inr (.inl (fun _ => 0))))), (q4, .inl (cF, 16, .inr (.inr (.inl (fun _ => 0))))), (q5, .inl (cF, 16, .inr (.inr (.inl (fun _ => 0))))), (q6, .inl (cF, 4, .inr (.inr (.inl (fun _ => 0))))), (q7, .inl (cF, 4, .inr (.inr (.inl (fun _ => 0))))), (q8, .inl (cF, 5, .inr (.inr (.inl (fun _ => 0))))), (q9, .inl (cF, 5, .inr (.inr (.inl (fun _ => 0))))), (q10, .inl (cF, 5, .inr (.inr (.inl (fun _ => 0))))), (q11, .inl (cF, 5, .inr (.inr (.inl (fun _ => 0))))), (q12, .inl (cI, 120, .inl (fun _ => 0))), (q13, .inl (cI, 16, .inl (fun _ => 0))), (q14, .inl (cI, 5, .inl (fun _ => 0)))] H := hP
  have hD : va_D A [(h0, .inr (6, [.ref q1, .ref q2, .ref q3, .ref q4, .ref q5, .ref q6, .ref q7, .ref q8, .ref q9, .ref q10, .ref q11, .ref q12, .ref q13, .ref q14, .null, .int 0, .int 0, .int 0, .int 0, .int 0, .int 0, .int 0, .int 0, .int 0, .int 0, .int 0])), (q1, .inl (cF, 48, .inr (.inr (.inl (fun _ => 0))))), (q2, .inl (cF, 16, .inr (.inr (.inl (fun _ => 0))))), (q3, .inl (cF, 16, .inr (.inr (.inl (fun _ => 0))))), (q4, .inl (cF, 16, .inr (.inr (.inl (fun _ => 0))))), (q5, .inl (cF, 16, .inr (.inr (.inl (fun _ => 0))))), (q6, .inl (cF, 4, .inr (.inr (.inl (fun _ => 0))))), (q7, .inl (cF, 4, .inr (.inr (.inl (fun _ => 0))))), (q8, .inl (cF, 5, .inr (.inr (.inl (fun _ => 0))))), (q9, .inl (cF, 5, .inr (.inr (.inl (fun _ => 0))))), (q10, .inl (cF, 5, .inr (.inr (.inl (fun _ => 0))))), (q11, .inl (cF, 5, .inr (.inr (.inl (fun _ => 0))))), (q12, .inl (cI, 120, .inl (fun _ => 0))), (q13, .inl (cI, 16, .inl (fun _ => 0))), (q14, .inl (cI, 5, .inl (fun _ => 0)))] := hD
  refine lv_aload_n hx hb dMod_init_109 rfl (lv_at hl 0 rfl) ?_
  refine lv_bipush (v := 7) hx hb dMod_init_110 (by decide) ?_
  refine n_arr (ty := .int) (n := 7) (N := 7) (a0 := (7, .inl (fun _ => 0))) 1 hx hb (ht _ ka_int) rfl hK hP hD hS hA (fun _ => rfl) (by decide) (by decide) (by decide) (Nat.le_of_ble_eq_true rfl) (Nat.le_of_ble_eq_true rfl) rfl dMod_init_112 (fun q15 H hP hD hS => ?_)
  have hP : va_P D vwCl [(h0, .inr (6, [.ref q1, .ref q2, .ref q3, .ref q4, .ref q5, .ref q6, .ref q7, .ref q8, .ref q9, .ref q10, .ref q11, .ref q12, .ref q13, .ref q14, .null, .int 0, .int 0, .int 0, .int 0, .int 0, .int 0, .int 0, .int 0, .int 0, .int 0, .int 0])), (q1, .inl (cF, 48, .inr (.inr (.inl (fun _ => 0))))), (q2, .inl (cF, 16, .inr (.inr (.inl (fun _ => 0))))), (q3, .inl (cF, 16, .inr (.inr (.inl (fun _ => 0))))), (q4, .inl (cF, 16, .inr (.inr (.inl (fun _ => 0))))), (q5, .inl (cF, 16, .inr (.inr (.inl (fun _ => 0))))), (q6, .inl (cF, 4, .inr (.inr (.inl (fun _ => 0))))), (q7, .inl (cF, 4, .inr (.inr (.inl (fun _ => 0))))), (q8, .inl (cF, 5, .inr (.inr (.inl (fun _ => 0))))), (q9, .inl (cF, 5, .inr (.inr (.inl (fun _ => 0))))), (q10, .inl (cF, 5, .inr (.inr (.inl (fun _ => 0))))), (q11, .inl (cF, 5, .inr (.inr (.inl (fun _ => 0))))), (q12, .inl (cI, 120, .inl (fun _ => 0))), (q13, .inl (cI, 16, .inl (fun _ => 0))), (q14, .inl (cI, 5, .inl (fun _ => 0))), (q15, .inl (cI, 7, .inl (fun _ => 0)))] H := hP
  have hD : va_D A [(h0, .inr (6, [.ref q1, .ref q2, .ref q3, .ref q4, .ref q5, .ref q6, .ref q7, .ref q8, .ref q9, .ref q10, .ref q11, .ref q12, .ref q13, .ref q14, .null, .int 0, .int 0, .int 0, .int 0, .int 0, .int 0, .int 0, .int 0, .int 0, .int 0, .int 0])), (q1, .inl (cF, 48, .inr (.inr (.inl (fun _ => 0))))), (q2, .inl (cF, 16, .inr (.inr (.inl (fun _ => 0))))), (q3, .inl (cF, 16, .inr (.inr (.inl (fun _ => 0))))), (q4, .inl (cF, 16, .inr (.inr (.inl (fun _ => 0))))), (q5, .inl (cF, 16, .inr (.inr (.inl (fun _ => 0))))), (q6, .inl (cF, 4, .inr (.inr (.inl (fun _ => 0))))), (q7, .inl (cF, 4, .inr (.inr (.inl (fun _ => 0))))), (q8, .inl (cF, 5, .inr (.inr (.inl (fun _ => 0))))), (q9, .inl (cF, 5, .inr (.inr (.inl (fun _ => 0))))), (q10, .inl (cF, 5, .inr (.inr (.inl (fun _ => 0))))), (q11, .inl (cF, 5, .inr (.inr (.inl (fun _ => 0))))), (q12, .inl (cI, 120, .inl (fun _ => 0))), (q13, .inl (cI, 16, .inl (fun _ => 0))), (q14, .inl (cI, 5, .inl (fun _ => 0))), (q15, .inl (cI, 7, .inl (fun _ => 0)))] := hD
  refine va_putF (D := D) (ci := 6) (v := .ref q15) (ty := (.array (.int))) hx hb ht inMod tMod tMod_ok nMod hown hK hP hD hS 0 rfl rfl 14 (by decide) (ht _ kf_Mod_53) (fun _ h9 => h9) rfl hin rfl (by decide +kernel) rfl rfl (Nat.le_of_ble_eq_true rfl) dMod_init_114 (fun H locs hP hD hS => ?_)
  have hP : va_P D vwCl [(h0, .inr (6, [.ref q1, .ref q2, .ref q3, .ref q4, .ref q5, .ref q6, .ref q7, .ref q8, .ref q9, .ref q10, .ref q11, .ref q12, .ref q13, .ref q14, .ref q15, .int 0, .int 0, .int 0, .int 0, .int 0, .int 0, .int 0, .int 0, .int 0, .int 0, .int 0])), (q1, .inl (cF, 48, .inr (.inr (.inl (fun _ => 0))))), (q2, .inl (cF, 16, .inr (.inr (.inl (fun _ => 0))))), (q3, .inl (cF, 16, .inr (.inr (.inl (fun _ => 0))))), (q4, .inl (cF, 16, .inr (.inr (.inl (fun _ => 0))))), (q5, .inl (cF, 16, .inr (.inr (.inl (fun _ => 0))))), (q6, .inl (cF, 4, .inr (.inr (.inl (fun _ => 0))))), (q7, .inl (cF, 4, .inr (.inr (.inl (fun _ => 0))))), (q8, .inl (cF, 5, .inr (.inr (.inl (fun _ => 0))))), (q9, .inl (cF, 5, .inr (.inr (.inl (fun _ => 0))))), (q10, .inl (cF, 5, .inr (.inr (.inl (fun _ => 0))))), (q11, .inl (cF, 5, .inr (.inr (.inl (fun _ => 0))))), (q12, .inl (cI, 120, .inl (fun _ => 0))), (q13, .inl (cI, 16, .inl (fun _ => 0))), (q14, .inl (cI, 5, .inl (fun _ => 0))), (q15, .inl (cI, 7, .inl (fun _ => 0)))] H := hP
  have hD : va_D A [(h0, .inr (6, [.ref q1, .ref q2, .ref q3, .ref q4, .ref q5, .ref q6, .ref q7, .ref q8, .ref q9, .ref q10, .ref q11, .ref q12, .ref q13, .ref q14, .ref q15, .int 0, .int 0, .int 0, .int 0, .int 0, .int 0, .int 0, .int 0, .int 0, .int 0, .int 0])), (q1, .inl (cF, 48, .inr (.inr (.inl (fun _ => 0))))), (q2, .inl (cF, 16, .inr (.inr (.inl (fun _ => 0))))), (q3, .inl (cF, 16, .inr (.inr (.inl (fun _ => 0))))), (q4, .inl (cF, 16, .inr (.inr (.inl (fun _ => 0))))), (q5, .inl (cF, 16, .inr (.inr (.inl (fun _ => 0))))), (q6, .inl (cF, 4, .inr (.inr (.inl (fun _ => 0))))), (q7, .inl (cF, 4, .inr (.inr (.inl (fun _ => 0))))), (q8, .inl (cF, 5, .inr (.inr (.inl (fun _ => 0))))), (q9, .inl (cF, 5, .inr (.inr (.inl (fun _ => 0))))), (q10, .inl (cF, 5, .inr (.inr (.inl (fun _ => 0))))), (q11, .inl (cF, 5, .inr (.inr (.inl (fun _ => 0))))), (q12, .inl (cI, 120, .inl (fun _ => 0))), (q13, .inl (cI, 16, .inl (fun _ => 0))), (q14, .inl (cI, 5, .inl (fun _ => 0))), (q15, .inl (cI, 7, .inl (fun _ => 0)))] := hD
  have hP := hP.sub (ws' := [(h0, .inr (6, [.ref q1, .ref q2, .ref q3, .ref q4, .ref q5, .ref q6, .ref q7, .ref q8, .ref q9, .ref q10, .ref q11, .ref q12, .ref q13, .ref q14, .ref q15, .int 0, .int 0, .int 0, .int 0, .int 0, .int 0, .int 0, .int 0, .int 0, .int 0, .int 0])), (q1, .inl (cF, 48, .inr (.inr (.inl (fun _ => 0))))), (q2, .inl (cF, 16, .inr (.inr (.inl (fun _ => 0))))), (q3, .inl (cF, 16, .inr (.inr (.inl (fun _ => 0))))), (q4, .inl (cF, 16, .inr (.inr (.inl (fun _ => 0))))), (q5, .inl (cF, 16, .inr (.inr (.inl (fun _ => 0))))), (q6, .inl (cF, 4, .inr (.inr (.inl (fun _ => 0))))), (q7, .inl (cF, 4, .inr (.inr (.inl (fun _ => 0))))), (q8, .inl (cF, 5, .inr (.inr (.inl (fun _ => 0))))), (q9, .inl (cF, 5, .inr (.inr (.inl (fun _ => 0))))), (q10, .inl (cF, 5, .inr (.inr (.inl (fun _ => 0))))), (q11, .inl (cF, 5, .inr (.inr (.inl (fun _ => 0))))), (q12, .inl (cI, 120, .inl (fun _ => 0))), (q13, .inl (cI, 16, .inl (fun _ => 0))), (q14, .inl (cI, 5, .inl (fun _ => 0))), (q15, .inl (cI, 7, .inl (fun _ => 0)))]) [0, 1, 2, 3, 4, 5, 6, 7, 8, 9, 10, 11, 12, 13, 14, 15] rfl
  have hD := hD.sub (ws' := [(h0, .inr (6, [.ref q1, .ref q2, .ref q3, .ref q4, .ref q5, .ref q6, .ref q7, .ref q8, .ref q9, .ref q10, .ref q11, .ref q12, .ref q13, .ref q14, .ref q15, .int 0, .int 0, .int 0, .int 0, .int 0, .int 0, .int 0, .int 0, .int 0, .int 0, .int 0])), (q1, .inl (cF, 48, .inr (.inr (.inl (fun _ => 0))))), (q2, .inl (cF, 16, .inr (.inr (.inl (fun _ => 0))))), (q3, .inl (cF, 16, .inr (.inr (.inl (fun _ => 0))))), (q4, .inl (cF, 16, .inr (.inr (.inl (fun _ => 0))))), (q5, .inl (cF, 16, .inr (.inr (.inl (fun _ => 0))))), (q6, .inl (cF, 4, .inr (.inr (.inl (fun _ => 0))))), (q7, .inl (cF, 4, .inr (.inr (.inl (fun _ => 0))))), (q8, .inl (cF, 5, .inr (.inr (.inl (fun _ => 0))))), (q9, .inl (cF, 5, .inr (.inr (.inl (fun _ => 0))))), (q10, .inl (cF, 5, .inr (.inr (.inl (fun _ => 0))))), (q11, .inl (cF, 5, .inr (.inr (.inl (fun _ => 0))))), (q12, .inl (cI, 120, .inl (fun _ => 0))), (q13, .inl (cI, 16, .inl (fun _ => 0))), (q14, .inl (cI, 5, .inl (fun _ => 0))), (q15, .inl (cI, 7, .inl (fun _ => 0)))]) [0, 1, 2, 3, 4, 5, 6, 7, 8, 9, 10, 11, 12, 13, 14, 15] (by decide) rfl
  exact e_v (q1, q2, q3, q4, q5, q6, q7, q8, q9, q10, q11, q12, q13, q14, q15) hx hb hr hlk hK hP hD hS rfl trivial dMod_init_117

set_option maxHeartbeats 4000000 in
set_option maxRecDepth 100000 in
theorem c_Mod_thrown (l : Launch) (D : va_G) (cF cI : ClassId) (sz : Nat) (h0 f1 f2 f3 f4 f5 f6 f7 f8 f9 f10 f11 n1 n2 n3 n4 : Nat) (sm : Int32) (ln : Int32) (tt : Int32) (cm : Int32) (dm : Int32) (si : Int32) (mu : Int32) (th : Int32) (lin : Int32) (oc : Int32) (od : Int32) : Met l yMod_thrown (.code yMod_thrown cMod_thrown 1 (some .int) :: TB) ({ frames := 0, cells := 0, slots := 0, locals := 0 }) (va_Pc [.ref h0] (cPre D cF cI [(h0, .inr (6, [.ref f1, .ref f2, .ref f3, .ref f4, .ref f5, .ref f6, .ref f7, .ref f8, .ref f9, .ref f10, .ref f11, .ref n1, .ref n2, .ref n3, .ref n4, .int sm, .int ln, .int tt, .int cm, .int dm, .int si, .int mu, .int th, .int lin, .int oc, .int od]))] sz)) (va_Qi (fun (r : Int32) (_ : Unit) => r = th) (cB D cF cI (va_A [(h0, .inr (6, [.ref f1, .ref f2, .ref f3, .ref f4, .ref f5, .ref f6, .ref f7, .ref f8, .ref f9, .ref f10, .ref f11, .ref n1, .ref n2, .ref n3, .ref n4, .int sm, .int ln, .int tt, .int cm, .int dm, .int si, .int mu, .int th, .int lin, .int oc, .int od]))] sz) (fun _ : Unit => [(h0, .inr (6, [.ref f1, .ref f2, .ref f3, .ref f4, .ref f5, .ref f6, .ref f7, .ref f8, .ref f9, .ref f10, .ref f11, .ref n1, .ref n2, .ref n3, .ref n4, .int sm, .int ln, .int tt, .int cm, .int dm, .int si, .int mu, .int th, .int lin, .int oc, .int od]))])) (va_A [(h0, .inr (6, [.ref f1, .ref f2, .ref f3, .ref f4, .ref f5, .ref f6, .ref f7, .ref f8, .ref f9, .ref f10, .ref f11, .ref n1, .ref n2, .ref n3, .ref n4, .int sm, .int ln, .int tt, .int cm, .int dm, .int si, .int mu, .int th, .int lin, .int oc, .int od]))] sz)) 0 0 (va_A [(h0, .inr (6, [.ref f1, .ref f2, .ref f3, .ref f4, .ref f5, .ref f6, .ref f7, .ref f8, .ref f9, .ref f10, .ref f11, .ref n1, .ref n2, .ref n3, .ref n4, .int sm, .int ln, .int tt, .int cm, .int dm, .int si, .int mu, .int th, .int lin, .int oc, .int od]))] sz) := by
  refine c_ofW (own := RMod) (by decide) rfl (fun p e s m below meth c hsz hx hb hr hml hown ht hlk hin hP hK hD hmb => ?_)
  subst hsz
  generalize hAe : va_A [(h0, .inr (6, [.ref f1, .ref f2, .ref f3, .ref f4, .ref f5, .ref f6, .ref f7, .ref f8, .ref f9, .ref f10, .ref f11, .ref n1, .ref n2, .ref n3, .ref n4, .int sm, .int ln, .int tt, .int cm, .int dm, .int si, .int mu, .int th, .int lin, .int oc, .int od]))] s.heap.size = A at hD ⊢
  have hA : ∀ q : Nat, s.heap.size ≤ q → A q := fun q h => by rw [← hAe]; exact Or.inr h
  have hS : va_S A s.heap s.heap [] := va_S.rf
  have hl := lv_entry ([.ref h0]) (n := 1) (Nat.le_of_ble_eq_true rfl)
  rw [lg_entry_eq]
  generalize (lg_sl ([.ref h0]) ++ List.replicate (1 - (lg_sl ([.ref h0])).length) Slot.unset).toArray = ls at hl ⊢
  have hl : lv_has ls 1 [(0, .ref h0)] := hl
  refine lv_aload_n hx hb dMod_thrown_0 rfl (lv_at hl 0 rfl) ?_
  refine va_get (D := D) (ci := 6) (v := .int th) hx hb ht inMod hown hK hP 0 rfl rfl 22 (by decide) (ht _ kf_Mod_56) (fun _ h9 => h9) rfl dMod_thrown_1 ?_
  have hP := hP.sub (ws' := [(h0, .inr (6, [.ref f1, .ref f2, .ref f3, .ref f4, .ref f5, .ref f6, .ref f7, .ref f8, .ref f9, .ref f10, .ref f11, .ref n1, .ref n2, .ref n3, .ref n4, .int sm, .int ln, .int tt, .int cm, .int dm, .int si, .int mu, .int th, .int lin, .int oc, .int od]))]) [0] rfl
  have hD := hD.sub (ws' := [(h0, .inr (6, [.ref f1, .ref f2, .ref f3, .ref f4, .ref f5, .ref f6, .ref f7, .ref f8, .ref f9, .ref f10, .ref f11, .ref n1, .ref n2, .ref n3, .ref n4, .int sm, .int ln, .int tt, .int cm, .int dm, .int si, .int mu, .int th, .int lin, .int oc, .int od]))]) [0] (by decide) rfl
  exact e_i () hx hb hr hlk hK hP hD hS rfl rfl dMod_thrown_4

set_option maxHeartbeats 4000000 in
set_option maxRecDepth 100000 in
theorem c_Mod_in (l : Launch) (D : va_G) (cF cI : ClassId) (sz : Nat) (v : Int32) (lo : Int32) (hi : Int32) : Met l yMod_in (.code yMod_in cMod_in 3 (some .boolean) :: TB) ({ frames := 0, cells := 0, slots := 0, locals := 0 }) (va_Pc [.int v, .int lo, .int hi] (cPre D cF cI [] sz)) (va_Qi (fun (r : Int32) (_ : Unit) => r = m_in v lo hi) (cB D cF cI (va_A [] sz) (fun _ : Unit => [])) (va_A [] sz)) 0 0 (va_A [] sz) := by
  refine c_ofW (own := RMod) (by decide) rfl (fun p e s m below meth c hsz hx hb hr hml hown ht hlk hin hP hK hD hmb => ?_)
  subst hsz
  generalize hAe : va_A [] s.heap.size = A at hD ⊢
  have hA : ∀ q : Nat, s.heap.size ≤ q → A q := fun q h => by rw [← hAe]; exact Or.inr h
  have hS : va_S A s.heap s.heap [] := va_S.rf
  have hl := lv_entry ([.int v, .int lo, .int hi]) (n := 3) (Nat.le_of_ble_eq_true rfl)
  rw [lg_entry_eq]
  generalize (lg_sl ([.int v, .int lo, .int hi]) ++ List.replicate (3 - (lg_sl ([.int v, .int lo, .int hi])).length) Slot.unset).toArray = ls at hl ⊢
  have hl : lv_has ls 3 [(0, .int v), (1, .int lo), (2, .int hi)] := hl
  refine lv_iload_n hx hb dMod_in_0 rfl (lv_at hl 0 rfl) ?_
  refine lv_iload_n hx hb dMod_in_1 rfl (lv_at hl 1 rfl) ?_
  refine lv_icmp_lt (tgt := 14) hx hb dMod_in_2 (by decide) (fun c1 => ?_) (fun c1 => ?_)
  · refine lv_iconst (v := 0) hx hb dMod_in_14 (by decide) ?_
    have hP := hP.sub (ws' := []) [] rfl
    have hD := hD.sub (ws' := []) [] (by decide) rfl
    exact e_z () hx hb hr hlk hK hP hD hS rfl rfl (by unfold m_in; rw [if_pos c1]) dMod_in_15
  · refine lv_iload_n hx hb dMod_in_5 rfl (lv_at hl 0 rfl) ?_
    refine lv_iload_n hx hb dMod_in_6 rfl (lv_at hl 2 rfl) ?_
    refine lv_icmp_gt (tgt := 14) hx hb dMod_in_7 (by decide) (fun c2 => ?_) (fun c2 => ?_)
    · refine lv_iconst (v := 0) hx hb dMod_in_14 (by decide) ?_
      have hP := hP.sub (ws' := []) [] rfl
      have hD := hD.sub (ws' := []) [] (by decide) rfl
      exact e_z () hx hb hr hlk hK hP hD hS rfl rfl (by unfold m_in; rw [if_neg c1, if_pos c2]) dMod_in_15
    · refine lv_iconst (v := 1) hx hb dMod_in_10 (by decide) ?_
      refine lv_goto (tgt := 15) hx hb dMod_in_11 (by decide) ?_
      have hP := hP.sub (ws' := []) [] rfl
      have hD := hD.sub (ws' := []) [] (by decide) rfl
      exact e_z () hx hb hr hlk hK hP hD hS rfl rfl (by unfold m_in; rw [if_neg c1, if_neg c2]) dMod_in_15

set_option maxHeartbeats 4000000 in
set_option maxRecDepth 100000 in
theorem c_Mod_fail (l : Launch) (D : va_G) (cF cI : ClassId) (sz : Nat) (h0 f1 f2 f3 f4 f5 f6 f7 f8 f9 f10 f11 n1 n2 n3 n4 : Nat) (sm : Int32) (ln : Int32) (tt : Int32) (cm : Int32) (dm : Int32) (si : Int32) (mu : Int32) (th : Int32) (lin : Int32) (oc : Int32) (od : Int32) (k : Int32) : Met l yMod_fail (.code yMod_fail cMod_fail 2 (some .int) :: TB) ({ frames := 0, cells := 0, slots := 0, locals := 0 }) (va_Pc [.ref h0, .int k] (cPre D cF cI [(h0, .inr (6, [.ref f1, .ref f2, .ref f3, .ref f4, .ref f5, .ref f6, .ref f7, .ref f8, .ref f9, .ref f10, .ref f11, .ref n1, .ref n2, .ref n3, .ref n4, .int sm, .int ln, .int tt, .int cm, .int dm, .int si, .int mu, .int th, .int lin, .int oc, .int od]))] sz)) (va_Qi (fun (r : Int32) (_ : Unit) => r = 0) (cB D cF cI (va_A [(h0, .inr (6, [.ref f1, .ref f2, .ref f3, .ref f4, .ref f5, .ref f6, .ref f7, .ref f8, .ref f9, .ref f10, .ref f11, .ref n1, .ref n2, .ref n3, .ref n4, .int sm, .int ln, .int tt, .int cm, .int dm, .int si, .int mu, .int th, .int lin, .int oc, .int od]))] sz) (fun _ : Unit => [(h0, .inr (6, [.ref f1, .ref f2, .ref f3, .ref f4, .ref f5, .ref f6, .ref f7, .ref f8, .ref f9, .ref f10, .ref f11, .ref n1, .ref n2, .ref n3, .ref n4, .int sm, .int ln, .int tt, .int cm, .int dm, .int si, .int mu, .int k, .int lin, .int oc, .int od]))])) (va_A [(h0, .inr (6, [.ref f1, .ref f2, .ref f3, .ref f4, .ref f5, .ref f6, .ref f7, .ref f8, .ref f9, .ref f10, .ref f11, .ref n1, .ref n2, .ref n3, .ref n4, .int sm, .int ln, .int tt, .int cm, .int dm, .int si, .int mu, .int th, .int lin, .int oc, .int od]))] sz)) 0 0 (va_A [(h0, .inr (6, [.ref f1, .ref f2, .ref f3, .ref f4, .ref f5, .ref f6, .ref f7, .ref f8, .ref f9, .ref f10, .ref f11, .ref n1, .ref n2, .ref n3, .ref n4, .int sm, .int ln, .int tt, .int cm, .int dm, .int si, .int mu, .int th, .int lin, .int oc, .int od]))] sz) := by
  refine c_ofW (own := RMod) (by decide) rfl (fun p e s m below meth c hsz hx hb hr hml hown ht hlk hin hP hK hD hmb => ?_)
  subst hsz
  generalize hAe : va_A [(h0, .inr (6, [.ref f1, .ref f2, .ref f3, .ref f4, .ref f5, .ref f6, .ref f7, .ref f8, .ref f9, .ref f10, .ref f11, .ref n1, .ref n2, .ref n3, .ref n4, .int sm, .int ln, .int tt, .int cm, .int dm, .int si, .int mu, .int th, .int lin, .int oc, .int od]))] s.heap.size = A at hD ⊢
  have hA : ∀ q : Nat, s.heap.size ≤ q → A q := fun q h => by rw [← hAe]; exact Or.inr h
  have hS : va_S A s.heap s.heap [] := va_S.rf
  have hl := lv_entry ([.ref h0, .int k]) (n := 2) (Nat.le_of_ble_eq_true rfl)
  rw [lg_entry_eq]
  generalize (lg_sl ([.ref h0, .int k]) ++ List.replicate (2 - (lg_sl ([.ref h0, .int k])).length) Slot.unset).toArray = ls at hl ⊢
  have hl : lv_has ls 2 [(0, .ref h0), (1, .int k)] := hl
  refine lv_aload_n hx hb dMod_fail_0 rfl (lv_at hl 0 rfl) ?_
  refine lv_iload_n hx hb dMod_fail_1 rfl (lv_at hl 1 rfl) ?_
  refine va_put (D := D) (ci := 6) (v := .int k) (ty := .int) hx hb ht inMod tMod tMod_ok nMod hown hK hP hD hS 0 rfl rfl 22 (by decide) (ht _ kf_Mod_56) (fun _ h9 => h9) rfl (by decide +kernel) rfl rfl (Nat.le_of_ble_eq_true rfl) dMod_fail_2 (fun H locs hP hD hS => ?_)
  have hP : va_P D vwCl [(h0, .inr (6, [.ref f1, .ref f2, .ref f3, .ref f4, .ref f5, .ref f6, .ref f7, .ref f8, .ref f9, .ref f10, .ref f11, .ref n1, .ref n2, .ref n3, .ref n4, .int sm, .int ln, .int tt, .int cm, .int dm, .int si, .int mu, .int k, .int lin, .int oc, .int od]))] H := hP
  have hD : va_D A [(h0, .inr (6, [.ref f1, .ref f2, .ref f3, .ref f4, .ref f5, .ref f6, .ref f7, .ref f8, .ref f9, .ref f10, .ref f11, .ref n1, .ref n2, .ref n3, .ref n4, .int sm, .int ln, .int tt, .int cm, .int dm, .int si, .int mu, .int k, .int lin, .int oc, .int od]))] := hD
  refine lv_iconst (v := 0) hx hb dMod_fail_5 (by decide) ?_
  have hP := hP.sub (ws' := [(h0, .inr (6, [.ref f1, .ref f2, .ref f3, .ref f4, .ref f5, .ref f6, .ref f7, .ref f8, .ref f9, .ref f10, .ref f11, .ref n1, .ref n2, .ref n3, .ref n4, .int sm, .int ln, .int tt, .int cm, .int dm, .int si, .int mu, .int k, .int lin, .int oc, .int od]))]) [0] rfl
  have hD := hD.sub (ws' := [(h0, .inr (6, [.ref f1, .ref f2, .ref f3, .ref f4, .ref f5, .ref f6, .ref f7, .ref f8, .ref f9, .ref f10, .ref f11, .ref n1, .ref n2, .ref n3, .ref n4, .int sm, .int ln, .int tt, .int cm, .int dm, .int si, .int mu, .int k, .int lin, .int oc, .int od]))]) [0] (by decide) rfl
  exact e_i () hx hb hr hlk hK hP hD hS rfl rfl dMod_fail_6

theorem nI_ne {a N : Nat} {M : Int32} (h : a < N) (hN : N < 2147483648) (hM : M = nI N := by decide) : ¬ nI a = M := by
  subst hM
  rw [nI_eq (by omega) hN]; omega

set_option maxHeartbeats 4000000 in
set_option maxRecDepth 100000 in
theorem c_Mod_sample_R (l : Launch) (D : va_G) (cF cI : ClassId) (sz : Nat) (h0 f1 f2 f3 f4 f5 f6 f7 f8 f9 f10 f11 n1 n2 n3 n4 : Nat) (ln : Int32) (tt : Int32) (cm : Int32) (dm : Int32) (si : Int32) (mu : Int32) (th : Int32) (lin : Int32) (oc : Int32) (od : Int32) (a : Nat) (xx : Nat → UInt32) (v : UInt64) (hd1 : ¬ Op.cmpValue (FP.dcmp v 13898108450065350656) .l < 0) (hd2 : ¬ 0 < Op.cmpValue (FP.dcmp v 4674736138332667904) .g) (ha : a < 48) : Met l yMod_sample (.code yMod_sample cMod_sample 3 (some .int) :: TB) ({ frames := 0, cells := 0, slots := 0, locals := 0 }) (va_Pc [.ref h0, .double v] (cPre D cF cI [(h0, .inr (6, [.ref f1, .ref f2, .ref f3, .ref f4, .ref f5, .ref f6, .ref f7, .ref f8, .ref f9, .ref f10, .ref f11, .ref n1, .ref n2, .ref n3, .ref n4, .int (nI a), .int ln, .int tt, .int cm, .int dm, .int si, .int mu, .int th, .int lin, .int oc, .int od])), (f1, .inl (cF, 48, .inr (.inr (.inl xx))))] sz)) (va_Qi (fun (r : Int32) (_ : Unit) => r = nI (a + 1)) (cB D cF cI (va_A [(h0, .inr (6, [.ref f1, .ref f2, .ref f3, .ref f4, .ref f5, .ref f6, .ref f7, .ref f8, .ref f9, .ref f10, .ref f11, .ref n1, .ref n2, .ref n3, .ref n4, .int (nI a), .int ln, .int tt, .int cm, .int dm, .int si, .int mu, .int th, .int lin, .int oc, .int od])), (f1, .inl (cF, 48, .inr (.inr (.inl xx))))] sz) (fun _ : Unit => [(h0, .inr (6, [.ref f1, .ref f2, .ref f3, .ref f4, .ref f5, .ref f6, .ref f7, .ref f8, .ref f9, .ref f10, .ref f11, .ref n1, .ref n2, .ref n3, .ref n4, .int (nI (a + 1)), .int ln, .int tt, .int cm, .int dm, .int si, .int mu, .int 0, .int lin, .int oc, .int od])), (f1, .inl (cF, 48, .inr (.inr (.inl (vf_upd xx a (FP.d2f v))))))])) (va_A [(h0, .inr (6, [.ref f1, .ref f2, .ref f3, .ref f4, .ref f5, .ref f6, .ref f7, .ref f8, .ref f9, .ref f10, .ref f11, .ref n1, .ref n2, .ref n3, .ref n4, .int (nI a), .int ln, .int tt, .int cm, .int dm, .int si, .int mu, .int th, .int lin, .int oc, .int od])), (f1, .inl (cF, 48, .inr (.inr (.inl xx))))] sz)) 0 0 (va_A [(h0, .inr (6, [.ref f1, .ref f2, .ref f3, .ref f4, .ref f5, .ref f6, .ref f7, .ref f8, .ref f9, .ref f10, .ref f11, .ref n1, .ref n2, .ref n3, .ref n4, .int (nI a), .int ln, .int tt, .int cm, .int dm, .int si, .int mu, .int th, .int lin, .int oc, .int od])), (f1, .inl (cF, 48, .inr (.inr (.inl xx))))] sz) := by
  refine c_ofW (own := RMod) (by decide) rfl (fun p e s m below meth c hsz hx hb hr hml hown ht hlk hin hP hK hD hmb => ?_)
  subst hsz
  generalize hAe : va_A [(h0, .inr (6, [.ref f1, .ref f2, .ref f3, .ref f4, .ref f5, .ref f6, .ref f7, .ref f8, .ref f9, .ref f10, .ref f11, .ref n1, .ref n2, .ref n3, .ref n4, .int (nI a), .int ln, .int tt, .int cm, .int dm, .int si, .int mu, .int th, .int lin, .int oc, .int od])), (f1, .inl (cF, 48, .inr (.inr (.inl xx))))] s.heap.size = A at hD ⊢
  have hA : ∀ q : Nat, s.heap.size ≤ q → A q := fun q h => by rw [← hAe]; exact Or.inr h
  have hS : va_S A s.heap s.heap [] := va_S.rf
  have hl := lv_entry ([.ref h0, .double v]) (n := 3) (Nat.le_of_ble_eq_true rfl)
  rw [lg_entry_eq]
  generalize (lg_sl ([.ref h0, .double v]) ++ List.replicate (3 - (lg_sl ([.ref h0, .double v])).length) Slot.unset).toArray = ls at hl ⊢
  have hl : lv_has ls 3 [(0, .ref h0), (1, .double v)] := hl
  refine lv_dload_n hx hb dMod_sample_0 rfl (lv_at hl 1 rfl) ?_
  refine lv_ldc2d (v := 13898108450065350656) hx hb hown (ht _ kk_Mod_60) dMod_sample_1 ?_
  refine lv_dcmp hx hb dMod_sample_4 ?_
  refine lv_if_lt (tgt := 16) hx hb dMod_sample_5 (by decide) (fun c1 => ?_) (fun c1 => ?_)
  · exact absurd c1 hd1
  · refine lv_dload_n hx hb dMod_sample_8 rfl (lv_at hl 1 rfl) ?_
    refine lv_ldc2d (v := 4674736138332667904) hx hb hown (ht _ kk_Mod_62) dMod_sample_9 ?_
    refine lv_dcmp hx hb dMod_sample_12 ?_
    refine lv_if_le (tgt := 22) hx hb dMod_sample_13 (by decide) (fun c2 => ?_) (fun c2 => ?_)
    · refine lv_aload_n hx hb dMod_sample_22 rfl (lv_at hl 0 rfl) ?_
      refine va_get (D := D) (ci := 6) (v := .int (nI a)) hx hb ht inMod hown hK hP 0 rfl rfl 15 (by decide) (ht _ kf_Mod_68) (fun _ h9 => h9) rfl dMod_sample_23 ?_
      refine lv_bipush (v := 48) hx hb dMod_sample_26 (by decide) ?_
      refine lv_icmp_ne (tgt := 37) hx hb dMod_sample_28 (by decide) (fun c3 => ?_) (fun c3 => ?_)
      · refine lv_aload_n hx hb dMod_sample_37 rfl (lv_at hl 0 rfl) ?_
        refine lv_iconst (v := 0) hx hb dMod_sample_38 (by decide) ?_
        refine va_put (D := D) (ci := 6) (v := .int 0) (ty := .int) hx hb ht inMod tMod tMod_ok nMod hown hK hP hD hS 0 rfl rfl 22 (by decide) (ht _ kf_Mod_56) (fun _ h9 => h9) rfl (by decide +kernel) rfl rfl (Nat.le_of_ble_eq_true rfl) dMod_sample_39 (fun H locs hP hD hS => ?_)
        have hP : va_P D vwCl [(h0, .inr (6, [.ref f1, .ref f2, .ref f3, .ref f4, .ref f5, .ref f6, .ref f7, .ref f8, .ref f9, .ref f10, .ref f11, .ref n1, .ref n2, .ref n3, .ref n4, .int (nI a), .int ln, .int tt, .int cm, .int dm, .int si, .int mu, .int 0, .int lin, .int oc, .int od])), (f1, .inl (cF, 48, .inr (.inr (.inl xx))))] H := hP
        have hD : va_D A [(h0, .inr (6, [.ref f1, .ref f2, .ref f3, .ref f4, .ref f5, .ref f6, .ref f7, .ref f8, .ref f9, .ref f10, .ref f11, .ref n1, .ref n2, .ref n3, .ref n4, .int (nI a), .int ln, .int tt, .int cm, .int dm, .int si, .int mu, .int 0, .int lin, .int oc, .int od])), (f1, .inl (cF, 48, .inr (.inr (.inl xx))))] := hD
        refine lv_aload_n hx hb dMod_sample_42 rfl (lv_at hl 0 rfl) ?_
        refine va_get (D := D) (ci := 6) (v := .ref f1) hx hb ht inMod hown hK hP 0 rfl rfl 0 (by decide) (ht _ kf_Mod_7) (fun _ h9 => h9) rfl dMod_sample_43 ?_
        refine lv_aload_n hx hb dMod_sample_46 rfl (lv_at hl 0 rfl) ?_
        refine va_get (D := D) (ci := 6) (v := .int (nI a)) hx hb ht inMod hown hK hP 0 rfl rfl 15 (by decide) (ht _ kf_Mod_68) (fun _ h9 => h9) rfl dMod_sample_47 ?_
        refine lv_dload_n hx hb dMod_sample_50 rfl (lv_at hl 1 rfl) ?_
        refine lv_d2f hx hb dMod_sample_51 (n_smp hd1) ?_
        refine k_fast (j := a) (f1 := vf_upd xx a (FP.d2f v)) hx hb hK hP hD hS 1 0 rfl rfl (vp_in_nI (by omega) (by decide)) (nI_clamp (by omega)) rfl dMod_sample_52 (fun H locs hP hD hS => ?_)
        have hP : va_P D vwCl [(h0, .inr (6, [.ref f1, .ref f2, .ref f3, .ref f4, .ref f5, .ref f6, .ref f7, .ref f8, .ref f9, .ref f10, .ref f11, .ref n1, .ref n2, .ref n3, .ref n4, .int (nI a), .int ln, .int tt, .int cm, .int dm, .int si, .int mu, .int 0, .int lin, .int oc, .int od])), (f1, .inl (cF, 48, .inr (.inr (.inl (vf_upd xx a (FP.d2f v))))))] H := hP
        have hD : va_D A [(h0, .inr (6, [.ref f1, .ref f2, .ref f3, .ref f4, .ref f5, .ref f6, .ref f7, .ref f8, .ref f9, .ref f10, .ref f11, .ref n1, .ref n2, .ref n3, .ref n4, .int (nI a), .int ln, .int tt, .int cm, .int dm, .int si, .int mu, .int 0, .int lin, .int oc, .int od])), (f1, .inl (cF, 48, .inr (.inr (.inl (vf_upd xx a (FP.d2f v))))))] := hD
        refine lv_aload_n hx hb dMod_sample_53 rfl (lv_at hl 0 rfl) ?_
        refine lv_dup hx hb dMod_sample_54 rfl ?_
        refine va_get (D := D) (ci := 6) (v := .int (nI a)) hx hb ht inMod hown hK hP 0 rfl rfl 15 (by decide) (ht _ kf_Mod_68) (fun _ h9 => h9) rfl dMod_sample_55 ?_
        refine lv_iconst (v := 1) hx hb dMod_sample_58 (by decide) ?_
        refine k_iadd (v := nI (a + 1)) hx hb dMod_sample_59 (nI_1 a) ?_
        refine va_put (D := D) (ci := 6) (v := .int (nI (a + 1))) (ty := .int) hx hb ht inMod tMod tMod_ok nMod hown hK hP hD hS 0 rfl rfl 15 (by decide) (ht _ kf_Mod_68) (fun _ h9 => h9) rfl (by decide +kernel) rfl rfl (Nat.le_of_ble_eq_true rfl) dMod_sample_60 (fun H locs hP hD hS => ?_)
        have hP : va_P D vwCl [(h0, .inr (6, [.ref f1, .ref f2, .ref f3, .ref f4, .ref f5, .ref f6, .ref f7, .ref f8, .ref f9, .ref f10, .ref f11, .ref n1, .ref n2, .ref n3, .ref n4, .int (nI (a + 1)), .int ln, .int tt, .int cm, .int dm, .int si, .int mu, .int 0, .int lin, .int oc, .int od])), (f1, .inl (cF, 48, .inr (.inr (.inl (vf_upd xx a (FP.d2f v))))))] H := hP
        have hD : va_D A [(h0, .inr (6, [.ref f1, .ref f2, .ref f3, .ref f4, .ref f5, .ref f6, .ref f7, .ref f8, .ref f9, .ref f10, .ref f11, .ref n1, .ref n2, .ref n3, .ref n4, .int (nI (a + 1)), .int ln, .int tt, .int cm, .int dm, .int si, .int mu, .int 0, .int lin, .int oc, .int od])), (f1, .inl (cF, 48, .inr (.inr (.inl (vf_upd xx a (FP.d2f v))))))] := hD
        refine lv_aload_n hx hb dMod_sample_63 rfl (lv_at hl 0 rfl) ?_
        refine va_get (D := D) (ci := 6) (v := .int (nI (a + 1))) hx hb ht inMod hown hK hP 0 rfl rfl 15 (by decide) (ht _ kf_Mod_68) (fun _ h9 => h9) rfl dMod_sample_64 ?_
        have hP := hP.sub (ws' := [(h0, .inr (6, [.ref f1, .ref f2, .ref f3, .ref f4, .ref f5, .ref f6, .ref f7, .ref f8, .ref f9, .ref f10, .ref f11, .ref n1, .ref n2, .ref n3, .ref n4, .int (nI (a + 1)), .int ln, .int tt, .int cm, .int dm, .int si, .int mu, .int 0, .int lin, .int oc, .int od])), (f1, .inl (cF, 48, .inr (.inr (.inl (vf_upd xx a (FP.d2f v))))))]) [0, 1] rfl
        have hD := hD.sub (ws' := [(h0, .inr (6, [.ref f1, .ref f2, .ref f3, .ref f4, .ref f5, .ref f6, .ref f7, .ref f8, .ref f9, .ref f10, .ref f11, .ref n1, .ref n2, .ref n3, .ref n4, .int (nI (a + 1)), .int ln, .int tt, .int cm, .int dm, .int si, .int mu, .int 0, .int lin, .int oc, .int od])), (f1, .inl (cF, 48, .inr (.inr (.inl (vf_upd xx a (FP.d2f v))))))]) [0, 1] (by decide) rfl
        exact e_i () hx hb hr hlk hK hP hD hS rfl rfl dMod_sample_67
      · exact absurd c3 (nI_ne ha (by decide))
    · exact absurd (Int32.not_lt.mp hd2) c2

set_option maxHeartbeats 4000000 in
set_option maxRecDepth 100000 in
theorem c_Mod_sample_A (l : Launch) (D : va_G) (cF cI : ClassId) (sz : Nat) (h0 f1 f2 f3 f4 f5 f6 f7 f8 f9 f10 f11 n1 n2 n3 n4 : Nat) (sm : Int32) (ln : Int32) (tt : Int32) (cm : Int32) (dm : Int32) (si : Int32) (mu : Int32) (th : Int32) (lin : Int32) (oc : Int32) (od : Int32) (v : UInt64) (hd : Op.cmpValue (FP.dcmp v 13898108450065350656) .l < 0 ∨ 0 < Op.cmpValue (FP.dcmp v 4674736138332667904) .g) : Met l yMod_sample (.code yMod_sample cMod_sample 3 (some .int) :: TB) ({ frames := 1, cells := 0, slots := 0, locals := 21 }) (va_Pc [.ref h0, .double v] (cPre D cF cI [(h0, .inr (6, [.ref f1, .ref f2, .ref f3, .ref f4, .ref f5, .ref f6, .ref f7, .ref f8, .ref f9, .ref f10, .ref f11, .ref n1, .ref n2, .ref n3, .ref n4, .int sm, .int ln, .int tt, .int cm, .int dm, .int si, .int mu, .int th, .int lin, .int oc, .int od]))] sz)) (va_Qi (fun (r : Int32) (_ : Unit) => r = 0) (cB D cF cI (va_A [(h0, .inr (6, [.ref f1, .ref f2, .ref f3, .ref f4, .ref f5, .ref f6, .ref f7, .ref f8, .ref f9, .ref f10, .ref f11, .ref n1, .ref n2, .ref n3, .ref n4, .int sm, .int ln, .int tt, .int cm, .int dm, .int si, .int mu, .int th, .int lin, .int oc, .int od]))] sz) (fun _ : Unit => [(h0, .inr (6, [.ref f1, .ref f2, .ref f3, .ref f4, .ref f5, .ref f6, .ref f7, .ref f8, .ref f9, .ref f10, .ref f11, .ref n1, .ref n2, .ref n3, .ref n4, .int sm, .int ln, .int tt, .int cm, .int dm, .int si, .int mu, .int 1, .int lin, .int oc, .int od]))])) (va_A [(h0, .inr (6, [.ref f1, .ref f2, .ref f3, .ref f4, .ref f5, .ref f6, .ref f7, .ref f8, .ref f9, .ref f10, .ref f11, .ref n1, .ref n2, .ref n3, .ref n4, .int sm, .int ln, .int tt, .int cm, .int dm, .int si, .int mu, .int th, .int lin, .int oc, .int od]))] sz)) 0 0 (va_A [(h0, .inr (6, [.ref f1, .ref f2, .ref f3, .ref f4, .ref f5, .ref f6, .ref f7, .ref f8, .ref f9, .ref f10, .ref f11, .ref n1, .ref n2, .ref n3, .ref n4, .int sm, .int ln, .int tt, .int cm, .int dm, .int si, .int mu, .int th, .int lin, .int oc, .int od]))] sz) := by
  refine c_ofW (own := RMod) (by decide) rfl (fun p e s m below meth c hsz hx hb hr hml hown ht hlk hin hP hK hD hmb => ?_)
  subst hsz
  generalize hAe : va_A [(h0, .inr (6, [.ref f1, .ref f2, .ref f3, .ref f4, .ref f5, .ref f6, .ref f7, .ref f8, .ref f9, .ref f10, .ref f11, .ref n1, .ref n2, .ref n3, .ref n4, .int sm, .int ln, .int tt, .int cm, .int dm, .int si, .int mu, .int th, .int lin, .int oc, .int od]))] s.heap.size = A at hD ⊢
  have hA : ∀ q : Nat, s.heap.size ≤ q → A q := fun q h => by rw [← hAe]; exact Or.inr h
  have hS : va_S A s.heap s.heap [] := va_S.rf
  have hl := lv_entry ([.ref h0, .double v]) (n := 3) (Nat.le_of_ble_eq_true rfl)
  rw [lg_entry_eq]
  generalize (lg_sl ([.ref h0, .double v]) ++ List.replicate (3 - (lg_sl ([.ref h0, .double v])).length) Slot.unset).toArray = ls at hl ⊢
  have hl : lv_has ls 3 [(0, .ref h0), (1, .double v)] := hl
  refine lv_dload_n hx hb dMod_sample_0 rfl (lv_at hl 1 rfl) ?_
  refine lv_ldc2d (v := 13898108450065350656) hx hb hown (ht _ kk_Mod_60) dMod_sample_1 ?_
  refine lv_dcmp hx hb dMod_sample_4 ?_
  refine lv_if_lt (tgt := 16) hx hb dMod_sample_5 (by decide) (fun c1 => ?_) (fun c1 => ?_)
  · refine lv_aload_n hx hb dMod_sample_16 rfl (lv_at hl 0 rfl) ?_
    refine lv_iconst (v := 1) hx hb dMod_sample_17 (by decide) ?_
    refine q_i (wc := [(h0, .inr (6, [.ref f1, .ref f2, .ref f3, .ref f4, .ref f5, .ref f6, .ref f7, .ref f8, .ref f9, .ref f10, .ref f11, .ref n1, .ref n2, .ref n3, .ref n4, .int sm, .int ln, .int tt, .int cm, .int dm, .int si, .int mu, .int th, .int lin, .int oc, .int od]))]) (wr := []) [0] [] hK hP hD hS hA rfl rfl (by decide) (by decide) (va_runV (As := [.int 1]) (rest := []) ⟨hx, hb, hml, hown, ht⟩ (c_Mod_fail l D cF cI s.heap.size h0 f1 f2 f3 f4 f5 f6 f7 f8 f9 f10 f11 n1 n2 n3 n4 sm ln tt cm dm si mu th lin oc od 1) (cwV 1 ht (g_V km_Mod_64 ki_Mod_fail kv_Mod_fail kI_Mod kc_Mod_fail) rfl rfl rfl (by decide +kernel) ⟨Nat.le_of_ble_eq_true rfl, Nat.le_of_ble_eq_true rfl⟩) (cPre_V (ci := 6) (q0 := 0) hK hmb (hP.sub (ws' := [(h0, .inr (6, [.ref f1, .ref f2, .ref f3, .ref f4, .ref f5, .ref f6, .ref f7, .ref f8, .ref f9, .ref f10, .ref f11, .ref n1, .ref n2, .ref n3, .ref n4, .int sm, .int ln, .int tt, .int cm, .int dm, .int si, .int mu, .int th, .int lin, .int oc, .int od]))]) [0] rfl) (hD.sub (ws' := [(h0, .inr (6, [.ref f1, .ref f2, .ref f3, .ref f4, .ref f5, .ref f6, .ref f7, .ref f8, .ref f9, .ref f10, .ref f11, .ref n1, .ref n2, .ref n3, .ref n4, .int sm, .int ln, .int tt, .int cm, .int dm, .int si, .int mu, .int th, .int lin, .int oc, .int od]))]) [0] (by decide) rfl) rfl rfl) rfl rfl hl.1 rfl (lv_room (Nat.le_of_ble_eq_true rfl)) dMod_sample_18 ⟨Nat.le_of_ble_eq_true rfl, Nat.le_of_ble_eq_true rfl⟩) (fun r2 u3 H locs w4 hP hD hS => ?_)
    subst w4
    have hP : va_P D vwCl [(h0, .inr (6, [.ref f1, .ref f2, .ref f3, .ref f4, .ref f5, .ref f6, .ref f7, .ref f8, .ref f9, .ref f10, .ref f11, .ref n1, .ref n2, .ref n3, .ref n4, .int sm, .int ln, .int tt, .int cm, .int dm, .int si, .int mu, .int 1, .int lin, .int oc, .int od]))] H := hP
    have hD : va_D A [(h0, .inr (6, [.ref f1, .ref f2, .ref f3, .ref f4, .ref f5, .ref f6, .ref f7, .ref f8, .ref f9, .ref f10, .ref f11, .ref n1, .ref n2, .ref n3, .ref n4, .int sm, .int ln, .int tt, .int cm, .int dm, .int si, .int mu, .int 1, .int lin, .int oc, .int od]))] := hD
    have hP := hP.sub (ws' := [(h0, .inr (6, [.ref f1, .ref f2, .ref f3, .ref f4, .ref f5, .ref f6, .ref f7, .ref f8, .ref f9, .ref f10, .ref f11, .ref n1, .ref n2, .ref n3, .ref n4, .int sm, .int ln, .int tt, .int cm, .int dm, .int si, .int mu, .int 1, .int lin, .int oc, .int od]))]) [0] rfl
    have hD := hD.sub (ws' := [(h0, .inr (6, [.ref f1, .ref f2, .ref f3, .ref f4, .ref f5, .ref f6, .ref f7, .ref f8, .ref f9, .ref f10, .ref f11, .ref n1, .ref n2, .ref n3, .ref n4, .int sm, .int ln, .int tt, .int cm, .int dm, .int si, .int mu, .int 1, .int lin, .int oc, .int od]))]) [0] (by decide) rfl
    exact e_i () hx hb hr hlk hK hP hD hS rfl rfl dMod_sample_21
  · refine lv_dload_n hx hb dMod_sample_8 rfl (lv_at hl 1 rfl) ?_
    refine lv_ldc2d (v := 4674736138332667904) hx hb hown (ht _ kk_Mod_62) dMod_sample_9 ?_
    refine lv_dcmp hx hb dMod_sample_12 ?_
    refine lv_if_le (tgt := 22) hx hb dMod_sample_13 (by decide) (fun c5 => ?_) (fun c5 => ?_)
    · exact absurd hd (fun q => q.elim c1 (Int32.not_lt.mpr c5))
    · refine lv_aload_n hx hb dMod_sample_16 rfl (lv_at hl 0 rfl) ?_
      refine lv_iconst (v := 1) hx hb dMod_sample_17 (by decide) ?_
      refine q_i (wc := [(h0, .inr (6, [.ref f1, .ref f2, .ref f3, .ref f4, .ref f5, .ref f6, .ref f7, .ref f8, .ref f9, .ref f10, .ref f11, .ref n1, .ref n2, .ref n3, .ref n4, .int sm, .int ln, .int tt, .int cm, .int dm, .int si, .int mu, .int th, .int lin, .int oc, .int od]))]) (wr := []) [0] [] hK hP hD hS hA rfl rfl (by decide) (by decide) (va_runV (As := [.int 1]) (rest := []) ⟨hx, hb, hml, hown, ht⟩ (c_Mod_fail l D cF cI s.heap.size h0 f1 f2 f3 f4 f5 f6 f7 f8 f9 f10 f11 n1 n2 n3 n4 sm ln tt cm dm si mu th lin oc od 1) (cwV 1 ht (g_V km_Mod_64 ki_Mod_fail kv_Mod_fail kI_Mod kc_Mod_fail) rfl rfl rfl (by decide +kernel) ⟨Nat.le_of_ble_eq_true rfl, Nat.le_of_ble_eq_true rfl⟩) (cPre_V (ci := 6) (q0 := 0) hK hmb (hP.sub (ws' := [(h0, .inr (6, [.ref f1, .ref f2, .ref f3, .ref f4, .ref f5, .ref f6, .ref f7, .ref f8, .ref f9, .ref f10, .ref f11, .ref n1, .ref n2, .ref n3, .ref n4, .int sm, .int ln, .int tt, .int cm, .int dm, .int si, .int mu, .int th, .int lin, .int oc, .int od]))]) [0] rfl) (hD.sub (ws' := [(h0, .inr (6, [.ref f1, .ref f2, .ref f3, .ref f4, .ref f5, .ref f6, .ref f7, .ref f8, .ref f9, .ref f10, .ref f11, .ref n1, .ref n2, .ref n3, .ref n4, .int sm, .int ln, .int tt, .int cm, .int dm, .int si, .int mu, .int th, .int lin, .int oc, .int od]))]) [0] (by decide) rfl) rfl rfl) rfl rfl hl.1 rfl (lv_room (Nat.le_of_ble_eq_true rfl)) dMod_sample_18 ⟨Nat.le_of_ble_eq_true rfl, Nat.le_of_ble_eq_true rfl⟩) (fun r6 u7 H locs w8 hP hD hS => ?_)
      subst w8
      have hP : va_P D vwCl [(h0, .inr (6, [.ref f1, .ref f2, .ref f3, .ref f4, .ref f5, .ref f6, .ref f7, .ref f8, .ref f9, .ref f10, .ref f11, .ref n1, .ref n2, .ref n3, .ref n4, .int sm, .int ln, .int tt, .int cm, .int dm, .int si, .int mu, .int 1, .int lin, .int oc, .int od]))] H := hP
      have hD : va_D A [(h0, .inr (6, [.ref f1, .ref f2, .ref f3, .ref f4, .ref f5, .ref f6, .ref f7, .ref f8, .ref f9, .ref f10, .ref f11, .ref n1, .ref n2, .ref n3, .ref n4, .int sm, .int ln, .int tt, .int cm, .int dm, .int si, .int mu, .int 1, .int lin, .int oc, .int od]))] := hD
      have hP := hP.sub (ws' := [(h0, .inr (6, [.ref f1, .ref f2, .ref f3, .ref f4, .ref f5, .ref f6, .ref f7, .ref f8, .ref f9, .ref f10, .ref f11, .ref n1, .ref n2, .ref n3, .ref n4, .int sm, .int ln, .int tt, .int cm, .int dm, .int si, .int mu, .int 1, .int lin, .int oc, .int od]))]) [0] rfl
      have hD := hD.sub (ws' := [(h0, .inr (6, [.ref f1, .ref f2, .ref f3, .ref f4, .ref f5, .ref f6, .ref f7, .ref f8, .ref f9, .ref f10, .ref f11, .ref n1, .ref n2, .ref n3, .ref n4, .int sm, .int ln, .int tt, .int cm, .int dm, .int si, .int mu, .int 1, .int lin, .int oc, .int od]))]) [0] (by decide) rfl
      exact e_i () hx hb hr hlk hK hP hD hS rfl rfl dMod_sample_21

set_option maxHeartbeats 4000000 in
set_option maxRecDepth 100000 in
theorem c_Mod_sample_B (l : Launch) (D : va_G) (cF cI : ClassId) (sz : Nat) (h0 f1 f2 f3 f4 f5 f6 f7 f8 f9 f10 f11 n1 n2 n3 n4 : Nat) (sm : Int32) (ln : Int32) (tt : Int32) (cm : Int32) (dm : Int32) (si : Int32) (mu : Int32) (th : Int32) (lin : Int32) (oc : Int32) (od : Int32) (v : UInt64) (hd1 : ¬ Op.cmpValue (FP.dcmp v 13898108450065350656) .l < 0) (hd2 : ¬ 0 < Op.cmpValue (FP.dcmp v 4674736138332667904) .g) (ha : sm = 48) : Met l yMod_sample (.code yMod_sample cMod_sample 3 (some .int) :: TB) ({ frames := 1, cells := 0, slots := 0, locals := 21 }) (va_Pc [.ref h0, .double v] (cPre D cF cI [(h0, .inr (6, [.ref f1, .ref f2, .ref f3, .ref f4, .ref f5, .ref f6, .ref f7, .ref f8, .ref f9, .ref f10, .ref f11, .ref n1, .ref n2, .ref n3, .ref n4, .int sm, .int ln, .int tt, .int cm, .int dm, .int si, .int mu, .int th, .int lin, .int oc, .int od]))] sz)) (va_Qi (fun (r : Int32) (_ : Unit) => r = 0) (cB D cF cI (va_A [(h0, .inr (6, [.ref f1, .ref f2, .ref f3, .ref f4, .ref f5, .ref f6, .ref f7, .ref f8, .ref f9, .ref f10, .ref f11, .ref n1, .ref n2, .ref n3, .ref n4, .int sm, .int ln, .int tt, .int cm, .int dm, .int si, .int mu, .int th, .int lin, .int oc, .int od]))] sz) (fun _ : Unit => [(h0, .inr (6, [.ref f1, .ref f2, .ref f3, .ref f4, .ref f5, .ref f6, .ref f7, .ref f8, .ref f9, .ref f10, .ref f11, .ref n1, .ref n2, .ref n3, .ref n4, .int sm, .int ln, .int tt, .int cm, .int dm, .int si, .int mu, .int 2, .int lin, .int oc, .int od]))])) (va_A [(h0, .inr (6, [.ref f1, .ref f2, .ref f3, .ref f4, .ref f5, .ref f6, .ref f7, .ref f8, .ref f9, .ref f10, .ref f11, .ref n1, .ref n2, .ref n3, .ref n4, .int sm, .int ln, .int tt, .int cm, .int dm, .int si, .int mu, .int th, .int lin, .int oc, .int od]))] sz)) 0 0 (va_A [(h0, .inr (6, [.ref f1, .ref f2, .ref f3, .ref f4, .ref f5, .ref f6, .ref f7, .ref f8, .ref f9, .ref f10, .ref f11, .ref n1, .ref n2, .ref n3, .ref n4, .int sm, .int ln, .int tt, .int cm, .int dm, .int si, .int mu, .int th, .int lin, .int oc, .int od]))] sz) := by
  refine c_ofW (own := RMod) (by decide) rfl (fun p e s m below meth c hsz hx hb hr hml hown ht hlk hin hP hK hD hmb => ?_)
  subst hsz
  generalize hAe : va_A [(h0, .inr (6, [.ref f1, .ref f2, .ref f3, .ref f4, .ref f5, .ref f6, .ref f7, .ref f8, .ref f9, .ref f10, .ref f11, .ref n1, .ref n2, .ref n3, .ref n4, .int sm, .int ln, .int tt, .int cm, .int dm, .int si, .int mu, .int th, .int lin, .int oc, .int od]))] s.heap.size = A at hD ⊢
  have hA : ∀ q : Nat, s.heap.size ≤ q → A q := fun q h => by rw [← hAe]; exact Or.inr h
  have hS : va_S A s.heap s.heap [] := va_S.rf
  have hl := lv_entry ([.ref h0, .double v]) (n := 3) (Nat.le_of_ble_eq_true rfl)
  rw [lg_entry_eq]
  generalize (lg_sl ([.ref h0, .double v]) ++ List.replicate (3 - (lg_sl ([.ref h0, .double v])).length) Slot.unset).toArray = ls at hl ⊢
  have hl : lv_has ls 3 [(0, .ref h0), (1, .double v)] := hl
  refine lv_dload_n hx hb dMod_sample_0 rfl (lv_at hl 1 rfl) ?_
  refine lv_ldc2d (v := 13898108450065350656) hx hb hown (ht _ kk_Mod_60) dMod_sample_1 ?_
  refine lv_dcmp hx hb dMod_sample_4 ?_
  refine lv_if_lt (tgt := 16) hx hb dMod_sample_5 (by decide) (fun c1 => ?_) (fun c1 => ?_)
  · exact absurd c1 hd1
  · refine lv_dload_n hx hb dMod_sample_8 rfl (lv_at hl 1 rfl) ?_
    refine lv_ldc2d (v := 4674736138332667904) hx hb hown (ht _ kk_Mod_62) dMod_sample_9 ?_
    refine lv_dcmp hx hb dMod_sample_12 ?_
    refine lv_if_le (tgt := 22) hx hb dMod_sample_13 (by decide) (fun c2 => ?_) (fun c2 => ?_)
    · refine lv_aload_n hx hb dMod_sample_22 rfl (lv_at hl 0 rfl) ?_
      refine va_get (D := D) (ci := 6) (v := .int sm) hx hb ht inMod hown hK hP 0 rfl rfl 15 (by decide) (ht _ kf_Mod_68) (fun _ h9 => h9) rfl dMod_sample_23 ?_
      refine lv_bipush (v := 48) hx hb dMod_sample_26 (by decide) ?_
      refine lv_icmp_ne (tgt := 37) hx hb dMod_sample_28 (by decide) (fun c3 => ?_) (fun c3 => ?_)
      · exact absurd ha c3
      · refine lv_aload_n hx hb dMod_sample_31 rfl (lv_at hl 0 rfl) ?_
        refine lv_iconst (v := 2) hx hb dMod_sample_32 (by decide) ?_
        refine q_i (wc := [(h0, .inr (6, [.ref f1, .ref f2, .ref f3, .ref f4, .ref f5, .ref f6, .ref f7, .ref f8, .ref f9, .ref f10, .ref f11, .ref n1, .ref n2, .ref n3, .ref n4, .int sm, .int ln, .int tt, .int cm, .int dm, .int si, .int mu, .int th, .int lin, .int oc, .int od]))]) (wr := []) [0] [] hK hP hD hS hA rfl rfl (by decide) (by decide) (va_runV (As := [.int 2]) (rest := []) ⟨hx, hb, hml, hown, ht⟩ (c_Mod_fail l D cF cI s.heap.size h0 f1 f2 f3 f4 f5 f6 f7 f8 f9 f10 f11 n1 n2 n3 n4 sm ln tt cm dm si mu th lin oc od 2) (cwV 1 ht (g_V km_Mod_64 ki_Mod_fail kv_Mod_fail kI_Mod kc_Mod_fail) rfl rfl rfl (by decide +kernel) ⟨Nat.le_of_ble_eq_true rfl, Nat.le_of_ble_eq_true rfl⟩) (cPre_V (ci := 6) (q0 := 0) hK hmb (hP.sub (ws' := [(h0, .inr (6, [.ref f1, .ref f2, .ref f3, .ref f4, .ref f5, .ref f6, .ref f7, .ref f8, .ref f9, .ref f10, .ref f11, .ref n1, .ref n2, .ref n3, .ref n4, .int sm, .int ln, .int tt, .int cm, .int dm, .int si, .int mu, .int th, .int lin, .int oc, .int od]))]) [0] rfl) (hD.sub (ws' := [(h0, .inr (6, [.ref f1, .ref f2, .ref f3, .ref f4, .ref f5, .ref f6, .ref f7, .ref f8, .ref f9, .ref f10, .ref f11, .ref n1, .ref n2, .ref n3, .ref n4, .int sm, .int ln, .int tt, .int cm, .int dm, .int si, .int mu, .int th, .int lin, .int oc, .int od]))]) [0] (by decide) rfl) rfl rfl) rfl rfl hl.1 rfl (lv_room (Nat.le_of_ble_eq_true rfl)) dMod_sample_33 ⟨Nat.le_of_ble_eq_true rfl, Nat.le_of_ble_eq_true rfl⟩) (fun r4 u5 H locs w6 hP hD hS => ?_)
        subst w6
        have hP : va_P D vwCl [(h0, .inr (6, [.ref f1, .ref f2, .ref f3, .ref f4, .ref f5, .ref f6, .ref f7, .ref f8, .ref f9, .ref f10, .ref f11, .ref n1, .ref n2, .ref n3, .ref n4, .int sm, .int ln, .int tt, .int cm, .int dm, .int si, .int mu, .int 2, .int lin, .int oc, .int od]))] H := hP
        have hD : va_D A [(h0, .inr (6, [.ref f1, .ref f2, .ref f3, .ref f4, .ref f5, .ref f6, .ref f7, .ref f8, .ref f9, .ref f10, .ref f11, .ref n1, .ref n2, .ref n3, .ref n4, .int sm, .int ln, .int tt, .int cm, .int dm, .int si, .int mu, .int 2, .int lin, .int oc, .int od]))] := hD
        have hP := hP.sub (ws' := [(h0, .inr (6, [.ref f1, .ref f2, .ref f3, .ref f4, .ref f5, .ref f6, .ref f7, .ref f8, .ref f9, .ref f10, .ref f11, .ref n1, .ref n2, .ref n3, .ref n4, .int sm, .int ln, .int tt, .int cm, .int dm, .int si, .int mu, .int 2, .int lin, .int oc, .int od]))]) [0] rfl
        have hD := hD.sub (ws' := [(h0, .inr (6, [.ref f1, .ref f2, .ref f3, .ref f4, .ref f5, .ref f6, .ref f7, .ref f8, .ref f9, .ref f10, .ref f11, .ref n1, .ref n2, .ref n3, .ref n4, .int sm, .int ln, .int tt, .int cm, .int dm, .int si, .int mu, .int 2, .int lin, .int oc, .int od]))]) [0] (by decide) rfl
        exact e_i () hx hb hr hlk hK hP hD hS rfl rfl dMod_sample_36
    · exact absurd (Int32.not_lt.mp hd2) c2

set_option maxHeartbeats 4000000 in
set_option maxRecDepth 100000 in
theorem c_Mod_linear (l : Launch) (D : va_G) (cF cI : ClassId) (sz : Nat) (h0 f1 f2 f3 f4 f5 f6 f7 f8 f9 f10 f11 n1 n2 n3 n4 : Nat) (sm : Int32) (ln : Int32) (tt : Int32) (cm : Int32) (dm : Int32) (si : Int32) (mu : Int32) (th : Int32) (lin : Int32) (oc : Int32) (od : Int32) (b : Int32) (hlb : lin = 0 ∨ lin = 1) (his : b = 0 ∨ b = 1) : Met l yMod_linear (.code yMod_linear cMod_linear 3 (some .boolean) :: TB) ({ frames := 0, cells := 0, slots := 0, locals := 0 }) (va_Pc [.ref h0, .int b] (cPre D cF cI [(h0, .inr (6, [.ref f1, .ref f2, .ref f3, .ref f4, .ref f5, .ref f6, .ref f7, .ref f8, .ref f9, .ref f10, .ref f11, .ref n1, .ref n2, .ref n3, .ref n4, .int sm, .int ln, .int tt, .int cm, .int dm, .int si, .int mu, .int th, .int lin, .int oc, .int od]))] sz)) (va_Qi (fun (r : Int32) (_ : Unit) => r = lin) (cB D cF cI (va_A [(h0, .inr (6, [.ref f1, .ref f2, .ref f3, .ref f4, .ref f5, .ref f6, .ref f7, .ref f8, .ref f9, .ref f10, .ref f11, .ref n1, .ref n2, .ref n3, .ref n4, .int sm, .int ln, .int tt, .int cm, .int dm, .int si, .int mu, .int th, .int lin, .int oc, .int od]))] sz) (fun _ : Unit => [(h0, .inr (6, [.ref f1, .ref f2, .ref f3, .ref f4, .ref f5, .ref f6, .ref f7, .ref f8, .ref f9, .ref f10, .ref f11, .ref n1, .ref n2, .ref n3, .ref n4, .int sm, .int ln, .int tt, .int cm, .int dm, .int si, .int mu, .int 0, .int b, .int oc, .int od]))])) (va_A [(h0, .inr (6, [.ref f1, .ref f2, .ref f3, .ref f4, .ref f5, .ref f6, .ref f7, .ref f8, .ref f9, .ref f10, .ref f11, .ref n1, .ref n2, .ref n3, .ref n4, .int sm, .int ln, .int tt, .int cm, .int dm, .int si, .int mu, .int th, .int lin, .int oc, .int od]))] sz)) 0 0 (va_A [(h0, .inr (6, [.ref f1, .ref f2, .ref f3, .ref f4, .ref f5, .ref f6, .ref f7, .ref f8, .ref f9, .ref f10, .ref f11, .ref n1, .ref n2, .ref n3, .ref n4, .int sm, .int ln, .int tt, .int cm, .int dm, .int si, .int mu, .int th, .int lin, .int oc, .int od]))] sz) := by
  refine c_ofW (own := RMod) (by decide) rfl (fun p e s m below meth c hsz hx hb hr hml hown ht hlk hin hP hK hD hmb => ?_)
  subst hsz
  generalize hAe : va_A [(h0, .inr (6, [.ref f1, .ref f2, .ref f3, .ref f4, .ref f5, .ref f6, .ref f7, .ref f8, .ref f9, .ref f10, .ref f11, .ref n1, .ref n2, .ref n3, .ref n4, .int sm, .int ln, .int tt, .int cm, .int dm, .int si, .int mu, .int th, .int lin, .int oc, .int od]))] s.heap.size = A at hD ⊢
  have hA : ∀ q : Nat, s.heap.size ≤ q → A q := fun q h => by rw [← hAe]; exact Or.inr h
  have hS : va_S A s.heap s.heap [] := va_S.rf
  have hl := lv_entry ([.ref h0, .int b]) (n := 3) (Nat.le_of_ble_eq_true rfl)
  rw [lg_entry_eq]
  generalize (lg_sl ([.ref h0, .int b]) ++ List.replicate (3 - (lg_sl ([.ref h0, .int b])).length) Slot.unset).toArray = ls at hl ⊢
  have hl : lv_has ls 3 [(0, .ref h0), (1, .int b)] := hl
  refine lv_aload_n hx hb dMod_linear_0 rfl (lv_at hl 0 rfl) ?_
  refine lv_iconst (v := 0) hx hb dMod_linear_1 (by decide) ?_
  refine va_put (D := D) (ci := 6) (v := .int 0) (ty := .int) hx hb ht inMod tMod tMod_ok nMod hown hK hP hD hS 0 rfl rfl 22 (by decide) (ht _ kf_Mod_56) (fun _ h9 => h9) rfl (by decide +kernel) rfl rfl (Nat.le_of_ble_eq_true rfl) dMod_linear_2 (fun H locs hP hD hS => ?_)
  have hP : va_P D vwCl [(h0, .inr (6, [.ref f1, .ref f2, .ref f3, .ref f4, .ref f5, .ref f6, .ref f7, .ref f8, .ref f9, .ref f10, .ref f11, .ref n1, .ref n2, .ref n3, .ref n4, .int sm, .int ln, .int tt, .int cm, .int dm, .int si, .int mu, .int 0, .int lin, .int oc, .int od]))] H := hP
  have hD : va_D A [(h0, .inr (6, [.ref f1, .ref f2, .ref f3, .ref f4, .ref f5, .ref f6, .ref f7, .ref f8, .ref f9, .ref f10, .ref f11, .ref n1, .ref n2, .ref n3, .ref n4, .int sm, .int ln, .int tt, .int cm, .int dm, .int si, .int mu, .int 0, .int lin, .int oc, .int od]))] := hD
  refine lv_aload_n hx hb dMod_linear_5 rfl (lv_at hl 0 rfl) ?_
  refine va_get (D := D) (ci := 6) (v := .int lin) hx hb ht inMod hown hK hP 0 rfl rfl 23 (by decide) (ht _ kf_Mod_71) (fun _ h9 => h9) rfl dMod_linear_6 ?_
  refine lv_istore_n (lv' := [(2, .int lin), (0, .ref h0), (1, .int b)]) hx hb dMod_linear_9 rfl hl (by decide) rfl (fun ls hl => ?_)
  refine lv_aload_n hx hb dMod_linear_10 rfl (lv_at hl 1 rfl) ?_
  refine lv_iload_n hx hb dMod_linear_11 rfl (lv_at hl 2 rfl) ?_
  refine va_put (D := D) (ci := 6) (v := .int b) (ty := .boolean) hx hb ht inMod tMod tMod_ok nMod hown hK hP hD hS 0 rfl rfl 23 (by decide) (ht _ kf_Mod_71) (fun _ h9 => h9) rfl (by decide +kernel) (z_nar his) (z_fit his) (Nat.le_of_ble_eq_true rfl) dMod_linear_12 (fun H locs hP hD hS => ?_)
  have hP : va_P D vwCl [(h0, .inr (6, [.ref f1, .ref f2, .ref f3, .ref f4, .ref f5, .ref f6, .ref f7, .ref f8, .ref f9, .ref f10, .ref f11, .ref n1, .ref n2, .ref n3, .ref n4, .int sm, .int ln, .int tt, .int cm, .int dm, .int si, .int mu, .int 0, .int b, .int oc, .int od]))] H := hP
  have hD : va_D A [(h0, .inr (6, [.ref f1, .ref f2, .ref f3, .ref f4, .ref f5, .ref f6, .ref f7, .ref f8, .ref f9, .ref f10, .ref f11, .ref n1, .ref n2, .ref n3, .ref n4, .int sm, .int ln, .int tt, .int cm, .int dm, .int si, .int mu, .int 0, .int b, .int oc, .int od]))] := hD
  refine lv_iload_n hx hb dMod_linear_15 rfl (lv_at hl 0 rfl) ?_
  have hP := hP.sub (ws' := [(h0, .inr (6, [.ref f1, .ref f2, .ref f3, .ref f4, .ref f5, .ref f6, .ref f7, .ref f8, .ref f9, .ref f10, .ref f11, .ref n1, .ref n2, .ref n3, .ref n4, .int sm, .int ln, .int tt, .int cm, .int dm, .int si, .int mu, .int 0, .int b, .int oc, .int od]))]) [0] rfl
  have hD := hD.sub (ws' := [(h0, .inr (6, [.ref f1, .ref f2, .ref f3, .ref f4, .ref f5, .ref f6, .ref f7, .ref f8, .ref f9, .ref f10, .ref f11, .ref n1, .ref n2, .ref n3, .ref n4, .int sm, .int ln, .int tt, .int cm, .int dm, .int si, .int mu, .int 0, .int b, .int oc, .int od]))]) [0] (by decide) rfl
  exact e_z () hx hb hr hlk hK hP hD hS (z_nar hlb) rfl rfl dMod_linear_16

set_option maxHeartbeats 4000000 in
set_option maxRecDepth 100000 in
theorem c_Mod_size (l : Launch) (D : va_G) (cF cI : ClassId) (sz : Nat) (gg : Nat) (lin : Int32) (hg : gg < 16) : Met l yMod_size (.code yMod_size cMod_size 4 (some .float) :: TB) ({ frames := 0, cells := 0, slots := 0, locals := 0 }) (va_Pc [.int (nI gg), .int lin] (cPre D cF cI [] sz)) (va_Qf (fun (r : UInt32) (_ : Unit) => r = m_step lin gg) (cB D cF cI (va_A [] sz) (fun _ : Unit => [])) (va_A [] sz)) 0 0 (va_A [] sz) := by
  refine c_ofW (own := RMod) (by decide) rfl (fun p e s m below meth c hsz hx hb hr hml hown ht hlk hin hP hK hD hmb => ?_)
  subst hsz
  generalize hAe : va_A [] s.heap.size = A at hD ⊢
  have hA : ∀ q : Nat, s.heap.size ≤ q → A q := fun q h => by rw [← hAe]; exact Or.inr h
  have hS : va_S A s.heap s.heap [] := va_S.rf
  have hl := lv_entry ([.int (nI gg), .int lin]) (n := 4) (Nat.le_of_ble_eq_true rfl)
  rw [lg_entry_eq]
  generalize (lg_sl ([.int (nI gg), .int lin]) ++ List.replicate (4 - (lg_sl ([.int (nI gg), .int lin])).length) Slot.unset).toArray = ls at hl ⊢
  have hl : lv_has ls 4 [(0, .int (nI gg)), (1, .int lin)] := hl
  refine lv_iload_n hx hb dMod_size_0 rfl (lv_at hl 1 rfl) ?_
  refine lv_if_eq (tgt := 12) hx hb dMod_size_1 (by decide) (fun c1 => ?_) (fun c1 => ?_)
  · refine lv_fconst1 hx hb dMod_size_12 ?_
    refine lv_fstore_n (lv' := [(2, .float FP.fconst1), (0, .int (nI gg)), (1, .int lin)]) hx hb dMod_size_13 rfl hl (by decide) rfl (fun ls hl => ?_)
    refine lv_iconst (v := 0) hx hb dMod_size_14 (by decide) ?_
    refine lv_istore_n (lv' := [(3, .int 0), (2, .float FP.fconst1), (0, .int (nI gg)), (1, .int lin)]) hx hb dMod_size_15 rfl hl (by decide) rfl (fun ls hl => ?_)
    have loop : ∀ (n i : Nat), i + n = gg → ∀ (H : Heap) (locs : List Loc), va_P D vwCl [] H → va_D A [] → va_S A s.heap H locs → ∀ (ls : Array Slot), lv_has ls 4 [(2, .float (m_pow i)), (3, .int (nI i)), (1, .int lin), (0, .int (nI gg))] → W p l e ({ frames := 0, cells := 0, slots := 0, locals := 0 } : Room) s m ([.int (nI gg), .int lin] : List Value).toArray below meth c H locs 0 0 (MQ below (va_Qf (fun (r : UInt32) (_ : Unit) => r = m_step lin gg) (cB D cF cI A (fun _ : Unit => [])) A) ([.int (nI gg), .int lin] : List Value).toArray s 0 0 A) (F0 m 16 ls []) := by
      intro n
      induction n with
      | zero =>
        intro i hi H locs hP hD hS ls hl
        obtain rfl : gg = i := by omega
        refine lv_iload_n hx hb dMod_size_16 rfl (lv_at hl 1 rfl) ?_
        refine lv_iload_n hx hb dMod_size_17 rfl (lv_at hl 3 rfl) ?_
        refine lv_icmp_ge (tgt := 31) hx hb dMod_size_18 (by decide) (fun c2 => ?_) (fun c2 => ?_)
        · refine lv_fload_n hx hb dMod_size_31 rfl (lv_at hl 0 rfl) ?_
          refine lv_ldcf (v := 1082130432) hx hb hown (ht _ kk_Mod_75) dMod_size_32 ?_
          refine lv_fdiv hx hb dMod_size_34 (fk_n (m_div4 (m_pow_k (by omega))) (by decide)) ?_
          have hP := hP.sub (ws' := []) [] rfl
          have hD := hD.sub (ws' := []) [] (by decide) rfl
          exact e_f () hx hb hr hlk hK hP hD hS rfl (by unfold m_step; rw [if_pos c1]) dMod_size_35
        · exact absurd (Int32.le_refl _) c2
      | succ n ih =>
        intro i hi H locs hP hD hS ls hl
        have hi1 : i < gg := by omega
        refine lv_iload_n hx hb dMod_size_16 rfl (lv_at hl 1 rfl) ?_
        refine lv_iload_n hx hb dMod_size_17 rfl (lv_at hl 3 rfl) ?_
        refine lv_icmp_ge (tgt := 31) hx hb dMod_size_18 (by decide) (fun c3 => ?_) (fun c3 => ?_)
        · exact absurd c3 (lt_up rfl hi1 (by omega))
        · refine lv_fload_n hx hb dMod_size_21 rfl (lv_at hl 0 rfl) ?_
          refine lv_fconst2 hx hb dMod_size_22 ?_
          refine lv_fmul hx hb dMod_size_23 (fk_n (m_pow_k (k := i + 1) (by omega)) (by decide)) ?_
          refine W.eq (g2 := F0 m 24 ls [.float (m_pow (i + 1))]) rfl ?_
          refine lv_fstore_n (lv' := [(2, .float (m_pow (i + 1))), (3, .int (nI i)), (1, .int lin), (0, .int (nI gg))]) hx hb dMod_size_24 rfl hl (by decide) rfl (fun ls hl => ?_)
          refine lv_iinc (v := nI (i + 1)) (lv' := [(3, .int (nI (i + 1))), (2, .float (m_pow (i + 1))), (1, .int lin), (0, .int (nI gg))]) hx hb dMod_size_25 hl (k := 1) rfl (nI_1 i) (by decide) rfl (fun ls hl => ?_)
          refine lv_goto (tgt := 16) hx hb dMod_size_28 (by decide) ?_
          exact ih (i + 1) (by omega)  _ _ (hP.sub (ws' := []) [] rfl) (hD.sub (ws' := []) [] (by decide) rfl) hS ls (lv_sub hl [1, 0, 2, 3] rfl)
    exact loop (gg - 0) 0 (by omega)  _ _ (hP.sub (ws' := []) [] rfl) (hD.sub (ws' := []) [] (by decide) rfl) hS ls (by have hl := lv_sub hl (l' := [(2, .float FP.fconst1), (3, .int 0), (1, .int lin), (0, .int (nI gg))]) [1, 0, 3, 2] rfl; try rw [show (0 : Int32) = nI 0 from (by decide)] at hl; exact hl)
  · refine lv_bipush (v := 16) hx hb dMod_size_4 (by decide) ?_
    refine lv_iload_n hx hb dMod_size_6 rfl (lv_at hl 0 rfl) ?_
    refine k_imul (v := 16 * (nI gg)) hx hb dMod_size_7 rfl ?_
    refine lv_iconst (v := 1) hx hb dMod_size_8 (by decide) ?_
    refine k_iadd (v := (16 * (nI gg)) + 1) hx hb dMod_size_9 rfl ?_
    refine lv_i2f hx hb dMod_size_10 ?_
    have hP := hP.sub (ws' := []) [] rfl
    have hD := hD.sub (ws' := []) [] (by decide) rfl
    exact e_f () hx hb hr hlk hK hP hD hS rfl (by unfold m_step; rw [if_neg c1]) dMod_size_11

theorem ml_1 (ww : Nat → UInt32) (q : UInt32) : vf_upd ww 1 q = f_lev 1 ww q := by
  funext j; unfold vf_upd f_lev
  by_cases h : j = 1
  · rw [if_pos h, if_pos h]
  · rw [if_neg h, if_neg h]
    by_cases hj : 1 ≤ j ∧ j < 1
    · rw [if_pos hj]
      rcases (show j = 1 by omega) with rfl
      · omega
    · rw [if_neg hj]
      repeat' rw [if_neg (by omega)]

set_option maxHeartbeats 4000000 in
set_option maxRecDepth 100000 in
theorem c_Mod_learn_1 (l : Launch) (D : va_G) (cF cI : ClassId) (sz : Nat) (h0 f1 f2 f3 f4 f5 f6 f7 f8 f9 f10 f11 n1 n2 n3 n4 : Nat) (sm : Int32) (ln : Int32) (tt : Int32) (cm : Int32) (dm : Int32) (si : Int32) (mu : Int32) (th : Int32) (lin : Int32) (oc : Int32) (od : Int32) (ww : Nat → UInt32) (wo : Nat → UInt32) (kk : Int32) (hc : cOK kk) (hw9 : ∀ j, 1 ≤ j → j < 1 → fk 124 (ww j)) : Met l yMod_learn (.code yMod_learn cMod_learn 5 none :: TB) ({ frames := 0, cells := 0, slots := 0, locals := 0 }) (va_Pc [.ref h0, .int 1, .int kk] (cPre D cF cI [(h0, .inr (6, [.ref f1, .ref f2, .ref f3, .ref f4, .ref f5, .ref f6, .ref f7, .ref f8, .ref f9, .ref f10, .ref f11, .ref n1, .ref n2, .ref n3, .ref n4, .int sm, .int ln, .int tt, .int cm, .int dm, .int si, .int mu, .int th, .int lin, .int oc, .int od])), (f8, .inl (cF, 5, .inr (.inr (.inl ww)))), (f9, .inl (cF, 5, .inr (.inr (.inl wo))))] sz)) (va_Qv (fun _ : Unit => True) (cB D cF cI (va_A [(h0, .inr (6, [.ref f1, .ref f2, .ref f3, .ref f4, .ref f5, .ref f6, .ref f7, .ref f8, .ref f9, .ref f10, .ref f11, .ref n1, .ref n2, .ref n3, .ref n4, .int sm, .int ln, .int tt, .int cm, .int dm, .int si, .int mu, .int th, .int lin, .int oc, .int od])), (f8, .inl (cF, 5, .inr (.inr (.inl ww)))), (f9, .inl (cF, 5, .inr (.inr (.inl wo))))] sz) (fun _ : Unit => [(h0, .inr (6, [.ref f1, .ref f2, .ref f3, .ref f4, .ref f5, .ref f6, .ref f7, .ref f8, .ref f9, .ref f10, .ref f11, .ref n1, .ref n2, .ref n3, .ref n4, .int sm, .int ln, .int tt, .int cm, .int dm, .int si, .int mu, .int th, .int lin, .int oc, .int od])), (f8, .inl (cF, 5, .inr (.inr (.inl (f_lev 1 ww (f_q kk)))))), (f9, .inl (cF, 5, .inr (.inr (.inl wo))))])) (va_A [(h0, .inr (6, [.ref f1, .ref f2, .ref f3, .ref f4, .ref f5, .ref f6, .ref f7, .ref f8, .ref f9, .ref f10, .ref f11, .ref n1, .ref n2, .ref n3, .ref n4, .int sm, .int ln, .int tt, .int cm, .int dm, .int si, .int mu, .int th, .int lin, .int oc, .int od])), (f8, .inl (cF, 5, .inr (.inr (.inl ww)))), (f9, .inl (cF, 5, .inr (.inr (.inl wo))))] sz)) 0 0 (va_A [(h0, .inr (6, [.ref f1, .ref f2, .ref f3, .ref f4, .ref f5, .ref f6, .ref f7, .ref f8, .ref f9, .ref f10, .ref f11, .ref n1, .ref n2, .ref n3, .ref n4, .int sm, .int ln, .int tt, .int cm, .int dm, .int si, .int mu, .int th, .int lin, .int oc, .int od])), (f8, .inl (cF, 5, .inr (.inr (.inl ww)))), (f9, .inl (cF, 5, .inr (.inr (.inl wo))))] sz) := by
  refine c_ofW (own := RMod) (by decide) rfl (fun p e s m below meth c hsz hx hb hr hml hown ht hlk hin hP hK hD hmb => ?_)
  subst hsz
  generalize hAe : va_A [(h0, .inr (6, [.ref f1, .ref f2, .ref f3, .ref f4, .ref f5, .ref f6, .ref f7, .ref f8, .ref f9, .ref f10, .ref f11, .ref n1, .ref n2, .ref n3, .ref n4, .int sm, .int ln, .int tt, .int cm, .int dm, .int si, .int mu, .int th, .int lin, .int oc, .int od])), (f8, .inl (cF, 5, .inr (.inr (.inl ww)))), (f9, .inl (cF, 5, .inr (.inr (.inl wo))))] s.heap.size = A at hD ⊢
  have hA : ∀ q : Nat, s.heap.size ≤ q → A q := fun q h => by rw [← hAe]; exact Or.inr h
  have hS : va_S A s.heap s.heap [] := va_S.rf
  have hl := lv_entry ([.ref h0, .int 1, .int kk]) (n := 5) (Nat.le_of_ble_eq_true rfl)
  rw [lg_entry_eq]
  generalize (lg_sl ([.ref h0, .int 1, .int kk]) ++ List.replicate (5 - (lg_sl ([.ref h0, .int 1, .int kk])).length) Slot.unset).toArray = ls at hl ⊢
  have hl : lv_has ls 5 [(0, .ref h0), (1, .int 1), (2, .int kk)] := hl
  refine lv_iload_n hx hb dMod_learn_0 rfl (lv_at hl 2 rfl) ?_
  refine lv_i2f hx hb dMod_learn_1 ?_
  refine lv_ldcf (v := 1098907648) hx hb hown (ht _ kk_Mod_76) dMod_learn_2 ?_
  refine lv_fdiv hx hb dMod_learn_4 (q_n hc) ?_
  refine W.eq (g2 := F0 m 5 ls [.float (f_q kk)]) rfl ?_
  refine lv_fstore_n (lv' := [(3, .float (f_q kk)), (0, .ref h0), (1, .int 1), (2, .int kk)]) hx hb dMod_learn_5 rfl hl (by decide) rfl (fun ls hl => ?_)
  refine lv_iconst (v := 1) hx hb dMod_learn_6 (by decide) ?_
  refine lv_istore (lv' := [(4, .int 1), (3, .float (f_q kk)), (0, .ref h0), (1, .int 1), (2, .int kk)]) hx hb dMod_learn_7 hl (by decide) rfl (fun ls hl => ?_)
  refine lv_iload hx hb dMod_learn_9 (lv_at hl 0 rfl) ?_
  refine lv_iload_n hx hb dMod_learn_11 rfl (lv_at hl 3 rfl) ?_
  refine lv_icmp_ge (tgt := 35) hx hb dMod_learn_12 (by decide) (fun _ => ?_) (fun c9 => absurd (by decide) c9)
  refine lv_iconst (v := 1) hx hb dMod_learn_35 (by decide) ?_
  refine lv_istore (lv' := [(4, .int 1), (3, .float (f_q kk)), (0, .ref h0), (1, .int 1), (2, .int kk)]) hx hb dMod_learn_36 hl (by decide) rfl (fun ls hl => ?_)
  refine lv_iload hx hb dMod_learn_38 (lv_at hl 0 rfl) ?_
  refine lv_iload_n hx hb dMod_learn_40 rfl (lv_at hl 3 rfl) ?_
  refine lv_icmp_ge (tgt := 76) hx hb dMod_learn_41 (by decide) (fun _ => ?_) (fun c9 => absurd (by decide) c9)
  refine lv_aload_n hx hb dMod_learn_76 rfl (lv_at hl 2 rfl) ?_
  refine va_get (D := D) (ci := 6) (v := .ref f8) hx hb ht inMod hown hK hP 0 rfl rfl 7 (by decide) (ht _ kf_Mod_31) (fun _ h9 => h9) rfl dMod_learn_77 ?_
  refine lv_iload_n hx hb dMod_learn_80 rfl (lv_at hl 3 rfl) ?_
  refine lv_fload_n hx hb dMod_learn_81 rfl (lv_at hl 1 rfl) ?_
  refine k_fast (j := 1) (f1 := f_lev 1 ww (f_q kk)) hx hb hK hP hD hS 1 0 rfl rfl (by unfold vp_in; decide) rfl (ml_1 ww (f_q kk)) dMod_learn_82 (fun H locs hP hD hS => ?_)
  have hP : va_P D vwCl [(h0, .inr (6, [.ref f1, .ref f2, .ref f3, .ref f4, .ref f5, .ref f6, .ref f7, .ref f8, .ref f9, .ref f10, .ref f11, .ref n1, .ref n2, .ref n3, .ref n4, .int sm, .int ln, .int tt, .int cm, .int dm, .int si, .int mu, .int th, .int lin, .int oc, .int od])), (f8, .inl (cF, 5, .inr (.inr (.inl (f_lev 1 ww (f_q kk)))))), (f9, .inl (cF, 5, .inr (.inr (.inl wo))))] H := hP
  have hD : va_D A [(h0, .inr (6, [.ref f1, .ref f2, .ref f3, .ref f4, .ref f5, .ref f6, .ref f7, .ref f8, .ref f9, .ref f10, .ref f11, .ref n1, .ref n2, .ref n3, .ref n4, .int sm, .int ln, .int tt, .int cm, .int dm, .int si, .int mu, .int th, .int lin, .int oc, .int od])), (f8, .inl (cF, 5, .inr (.inr (.inl (f_lev 1 ww (f_q kk)))))), (f9, .inl (cF, 5, .inr (.inr (.inl wo))))] := hD
  have hP := hP.sub (ws' := [(h0, .inr (6, [.ref f1, .ref f2, .ref f3, .ref f4, .ref f5, .ref f6, .ref f7, .ref f8, .ref f9, .ref f10, .ref f11, .ref n1, .ref n2, .ref n3, .ref n4, .int sm, .int ln, .int tt, .int cm, .int dm, .int si, .int mu, .int th, .int lin, .int oc, .int od])), (f8, .inl (cF, 5, .inr (.inr (.inl (f_lev 1 ww (f_q kk)))))), (f9, .inl (cF, 5, .inr (.inr (.inl wo))))]) [0, 1, 2] rfl
  have hD := hD.sub (ws' := [(h0, .inr (6, [.ref f1, .ref f2, .ref f3, .ref f4, .ref f5, .ref f6, .ref f7, .ref f8, .ref f9, .ref f10, .ref f11, .ref n1, .ref n2, .ref n3, .ref n4, .int sm, .int ln, .int tt, .int cm, .int dm, .int si, .int mu, .int th, .int lin, .int oc, .int od])), (f8, .inl (cF, 5, .inr (.inr (.inl (f_lev 1 ww (f_q kk)))))), (f9, .inl (cF, 5, .inr (.inr (.inl wo))))]) [0, 1, 2] (by decide) rfl
  exact e_v () hx hb hr hlk hK hP hD hS rfl trivial dMod_learn_83

theorem ml_2 (ww : Nat → UInt32) (q : UInt32) : vf_upd (vf_upd ww 1 (FP.fsub (ww 1) (FP.fmul q (ww 1)))) 2 q = f_lev 2 ww q := by
  funext j; unfold vf_upd f_lev
  by_cases h : j = 2
  · rw [if_pos h, if_pos h]
  · rw [if_neg h, if_neg h]
    by_cases hj : 1 ≤ j ∧ j < 2
    · rw [if_pos hj]
      rcases (show j = 1 by omega) with rfl
      · rfl
    · rw [if_neg hj]
      repeat' rw [if_neg (by omega)]

set_option maxHeartbeats 4000000 in
set_option maxRecDepth 100000 in
theorem c_Mod_learn_2 (l : Launch) (D : va_G) (cF cI : ClassId) (sz : Nat) (h0 f1 f2 f3 f4 f5 f6 f7 f8 f9 f10 f11 n1 n2 n3 n4 : Nat) (sm : Int32) (ln : Int32) (tt : Int32) (cm : Int32) (dm : Int32) (si : Int32) (mu : Int32) (th : Int32) (lin : Int32) (oc : Int32) (od : Int32) (ww : Nat → UInt32) (wo : Nat → UInt32) (kk : Int32) (hc : cOK kk) (hw9 : ∀ j, 1 ≤ j → j < 2 → fk 127 (ww j)) : Met l yMod_learn (.code yMod_learn cMod_learn 5 none :: TB) ({ frames := 0, cells := 0, slots := 0, locals := 0 }) (va_Pc [.ref h0, .int 2, .int kk] (cPre D cF cI [(h0, .inr (6, [.ref f1, .ref f2, .ref f3, .ref f4, .ref f5, .ref f6, .ref f7, .ref f8, .ref f9, .ref f10, .ref f11, .ref n1, .ref n2, .ref n3, .ref n4, .int sm, .int ln, .int tt, .int cm, .int dm, .int si, .int mu, .int th, .int lin, .int oc, .int od])), (f8, .inl (cF, 5, .inr (.inr (.inl ww)))), (f9, .inl (cF, 5, .inr (.inr (.inl wo))))] sz)) (va_Qv (fun _ : Unit => True) (cB D cF cI (va_A [(h0, .inr (6, [.ref f1, .ref f2, .ref f3, .ref f4, .ref f5, .ref f6, .ref f7, .ref f8, .ref f9, .ref f10, .ref f11, .ref n1, .ref n2, .ref n3, .ref n4, .int sm, .int ln, .int tt, .int cm, .int dm, .int si, .int mu, .int th, .int lin, .int oc, .int od])), (f8, .inl (cF, 5, .inr (.inr (.inl ww)))), (f9, .inl (cF, 5, .inr (.inr (.inl wo))))] sz) (fun _ : Unit => [(h0, .inr (6, [.ref f1, .ref f2, .ref f3, .ref f4, .ref f5, .ref f6, .ref f7, .ref f8, .ref f9, .ref f10, .ref f11, .ref n1, .ref n2, .ref n3, .ref n4, .int sm, .int ln, .int tt, .int cm, .int dm, .int si, .int mu, .int th, .int lin, .int oc, .int od])), (f8, .inl (cF, 5, .inr (.inr (.inl (f_lev 2 ww (f_q kk)))))), (f9, .inl (cF, 5, .inr (.inr (.inl (vf_upd wo 1 (ww 1))))))])) (va_A [(h0, .inr (6, [.ref f1, .ref f2, .ref f3, .ref f4, .ref f5, .ref f6, .ref f7, .ref f8, .ref f9, .ref f10, .ref f11, .ref n1, .ref n2, .ref n3, .ref n4, .int sm, .int ln, .int tt, .int cm, .int dm, .int si, .int mu, .int th, .int lin, .int oc, .int od])), (f8, .inl (cF, 5, .inr (.inr (.inl ww)))), (f9, .inl (cF, 5, .inr (.inr (.inl wo))))] sz)) 0 0 (va_A [(h0, .inr (6, [.ref f1, .ref f2, .ref f3, .ref f4, .ref f5, .ref f6, .ref f7, .ref f8, .ref f9, .ref f10, .ref f11, .ref n1, .ref n2, .ref n3, .ref n4, .int sm, .int ln, .int tt, .int cm, .int dm, .int si, .int mu, .int th, .int lin, .int oc, .int od])), (f8, .inl (cF, 5, .inr (.inr (.inl ww)))), (f9, .inl (cF, 5, .inr (.inr (.inl wo))))] sz) := by
  refine c_ofW (own := RMod) (by decide) rfl (fun p e s m below meth c hsz hx hb hr hml hown ht hlk hin hP hK hD hmb => ?_)
  subst hsz
  generalize hAe : va_A [(h0, .inr (6, [.ref f1, .ref f2, .ref f3, .ref f4, .ref f5, .ref f6, .ref f7, .ref f8, .ref f9, .ref f10, .ref f11, .ref n1, .ref n2, .ref n3, .ref n4, .int sm, .int ln, .int tt, .int cm, .int dm, .int si, .int mu, .int th, .int lin, .int oc, .int od])), (f8, .inl (cF, 5, .inr (.inr (.inl ww)))), (f9, .inl (cF, 5, .inr (.inr (.inl wo))))] s.heap.size = A at hD ⊢
  have hA : ∀ q : Nat, s.heap.size ≤ q → A q := fun q h => by rw [← hAe]; exact Or.inr h
  have hS : va_S A s.heap s.heap [] := va_S.rf
  have hl := lv_entry ([.ref h0, .int 2, .int kk]) (n := 5) (Nat.le_of_ble_eq_true rfl)
  rw [lg_entry_eq]
  generalize (lg_sl ([.ref h0, .int 2, .int kk]) ++ List.replicate (5 - (lg_sl ([.ref h0, .int 2, .int kk])).length) Slot.unset).toArray = ls at hl ⊢
  have hl : lv_has ls 5 [(0, .ref h0), (1, .int 2), (2, .int kk)] := hl
  refine lv_iload_n hx hb dMod_learn_0 rfl (lv_at hl 2 rfl) ?_
  refine lv_i2f hx hb dMod_learn_1 ?_
  refine lv_ldcf (v := 1098907648) hx hb hown (ht _ kk_Mod_76) dMod_learn_2 ?_
  refine lv_fdiv hx hb dMod_learn_4 (q_n hc) ?_
  refine W.eq (g2 := F0 m 5 ls [.float (f_q kk)]) rfl ?_
  refine lv_fstore_n (lv' := [(3, .float (f_q kk)), (0, .ref h0), (1, .int 2), (2, .int kk)]) hx hb dMod_learn_5 rfl hl (by decide) rfl (fun ls hl => ?_)
  refine lv_iconst (v := 1) hx hb dMod_learn_6 (by decide) ?_
  refine lv_istore (lv' := [(4, .int 1), (3, .float (f_q kk)), (0, .ref h0), (1, .int 2), (2, .int kk)]) hx hb dMod_learn_7 hl (by decide) rfl (fun ls hl => ?_)
  refine lv_iload hx hb dMod_learn_9 (lv_at hl 0 rfl) ?_
  refine lv_iload_n hx hb dMod_learn_11 rfl (lv_at hl 3 rfl) ?_
  refine lv_icmp_ge (tgt := 35) hx hb dMod_learn_12 (by decide) (fun c9 => absurd c9 (by decide)) (fun _ => ?_)
  refine lv_aload_n hx hb dMod_learn_15 rfl (lv_at hl 2 rfl) ?_
  refine va_get (D := D) (ci := 6) (v := .ref f9) hx hb ht inMod hown hK hP 0 rfl rfl 8 (by decide) (ht _ kf_Mod_34) (fun _ h9 => h9) rfl dMod_learn_16 ?_
  refine lv_iload hx hb dMod_learn_19 (lv_at hl 0 rfl) ?_
  refine lv_aload_n hx hb dMod_learn_21 rfl (lv_at hl 2 rfl) ?_
  refine va_get (D := D) (ci := 6) (v := .ref f8) hx hb ht inMod hown hK hP 0 rfl rfl 7 (by decide) (ht _ kf_Mod_31) (fun _ h9 => h9) rfl dMod_learn_22 ?_
  refine lv_iload hx hb dMod_learn_25 (lv_at hl 0 rfl) ?_
  refine k_fald (j := 1) hx hb hK hP 1 0 rfl rfl (by unfold vp_in; decide) rfl dMod_learn_27 ?_
  refine k_fast (j := 1) (f1 := vf_upd wo 1 (ww 1)) hx hb hK hP hD hS 2 0 rfl rfl (by unfold vp_in; decide) rfl rfl dMod_learn_28 (fun H locs hP hD hS => ?_)
  have hP : va_P D vwCl [(h0, .inr (6, [.ref f1, .ref f2, .ref f3, .ref f4, .ref f5, .ref f6, .ref f7, .ref f8, .ref f9, .ref f10, .ref f11, .ref n1, .ref n2, .ref n3, .ref n4, .int sm, .int ln, .int tt, .int cm, .int dm, .int si, .int mu, .int th, .int lin, .int oc, .int od])), (f8, .inl (cF, 5, .inr (.inr (.inl ww)))), (f9, .inl (cF, 5, .inr (.inr (.inl (vf_upd wo 1 (ww 1))))))] H := hP
  have hD : va_D A [(h0, .inr (6, [.ref f1, .ref f2, .ref f3, .ref f4, .ref f5, .ref f6, .ref f7, .ref f8, .ref f9, .ref f10, .ref f11, .ref n1, .ref n2, .ref n3, .ref n4, .int sm, .int ln, .int tt, .int cm, .int dm, .int si, .int mu, .int th, .int lin, .int oc, .int od])), (f8, .inl (cF, 5, .inr (.inr (.inl ww)))), (f9, .inl (cF, 5, .inr (.inr (.inl (vf_upd wo 1 (ww 1))))))] := hD
  refine lv_iinc (v := 2) (lv' := [(4, .int 2), (3, .float (f_q kk)), (0, .ref h0), (1, .int 2), (2, .int kk)]) hx hb dMod_learn_29 hl (k := 0) rfl (by decide) (by decide) rfl (fun ls hl => ?_)
  refine lv_goto (tgt := 9) hx hb dMod_learn_32 (by decide) ?_
  refine lv_iload hx hb dMod_learn_9 (lv_at hl 0 rfl) ?_
  refine lv_iload_n hx hb dMod_learn_11 rfl (lv_at hl 3 rfl) ?_
  refine lv_icmp_ge (tgt := 35) hx hb dMod_learn_12 (by decide) (fun _ => ?_) (fun c9 => absurd (by decide) c9)
  refine lv_iconst (v := 1) hx hb dMod_learn_35 (by decide) ?_
  refine lv_istore (lv' := [(4, .int 1), (3, .float (f_q kk)), (0, .ref h0), (1, .int 2), (2, .int kk)]) hx hb dMod_learn_36 hl (by decide) rfl (fun ls hl => ?_)
  refine lv_iload hx hb dMod_learn_38 (lv_at hl 0 rfl) ?_
  refine lv_iload_n hx hb dMod_learn_40 rfl (lv_at hl 3 rfl) ?_
  refine lv_icmp_ge (tgt := 76) hx hb dMod_learn_41 (by decide) (fun c9 => absurd c9 (by decide)) (fun _ => ?_)
  refine lv_aload_n hx hb dMod_learn_44 rfl (lv_at hl 2 rfl) ?_
  refine va_get (D := D) (ci := 6) (v := .ref f8) hx hb ht inMod hown hK hP 0 rfl rfl 7 (by decide) (ht _ kf_Mod_31) (fun _ h9 => h9) rfl dMod_learn_45 ?_
  refine lv_iload hx hb dMod_learn_48 (lv_at hl 0 rfl) ?_
  refine lv_aload_n hx hb dMod_learn_50 rfl (lv_at hl 2 rfl) ?_
  refine va_get (D := D) (ci := 6) (v := .ref f9) hx hb ht inMod hown hK hP 0 rfl rfl 8 (by decide) (ht _ kf_Mod_34) (fun _ h9 => h9) rfl dMod_learn_51 ?_
  refine lv_iload hx hb dMod_learn_54 (lv_at hl 0 rfl) ?_
  refine k_fald (j := 1) hx hb hK hP 2 0 rfl rfl (by unfold vp_in; decide) rfl dMod_learn_56 ?_
  refine W.eq (g2 := F0 m 57 ls [.float (ww 1), .int 1, .ref f8]) rfl ?_
  refine lv_fload_n hx hb dMod_learn_57 rfl (lv_at hl 1 rfl) ?_
  refine lv_aload_n hx hb dMod_learn_58 rfl (lv_at hl 2 rfl) ?_
  refine va_get (D := D) (ci := 6) (v := .ref f9) hx hb ht inMod hown hK hP 0 rfl rfl 8 (by decide) (ht _ kf_Mod_34) (fun _ h9 => h9) rfl dMod_learn_59 ?_
  refine lv_iload_n hx hb dMod_learn_62 rfl (lv_at hl 3 rfl) ?_
  refine lv_iload hx hb dMod_learn_63 (lv_at hl 0 rfl) ?_
  refine k_isub (v := 1) hx hb dMod_learn_65 (by decide) ?_
  refine k_fald (j := 1) hx hb hK hP 2 0 rfl rfl (by unfold vp_in; decide) rfl dMod_learn_66 ?_
  refine W.eq (g2 := F0 m 67 ls [.float (ww 1), .float (f_q kk), .float (ww 1), .int 1, .ref f8]) rfl ?_
  refine lv_fmul hx hb dMod_learn_67 (fk_n (fk_mul (q_k hc) (hw9 1 (by decide) (by decide)) (by decide) (by decide)) (by decide)) ?_
  refine lv_fsub hx hb dMod_learn_68 (fk_n (fk_sub (K := 128) (fk_mono (hw9 1 (by decide) (by decide)) (by decide)) (fk_mono (fk_mul (q_k hc) (hw9 1 (by decide) (by decide)) (by decide) (by decide)) (by decide)) (by decide)) (by decide)) ?_
  refine k_fast (j := 1) (f1 := vf_upd ww 1 (FP.fsub (ww 1) (FP.fmul (f_q kk) (ww 1)))) hx hb hK hP hD hS 1 0 rfl rfl (by unfold vp_in; decide) rfl rfl dMod_learn_69 (fun H locs hP hD hS => ?_)
  have hP : va_P D vwCl [(h0, .inr (6, [.ref f1, .ref f2, .ref f3, .ref f4, .ref f5, .ref f6, .ref f7, .ref f8, .ref f9, .ref f10, .ref f11, .ref n1, .ref n2, .ref n3, .ref n4, .int sm, .int ln, .int tt, .int cm, .int dm, .int si, .int mu, .int th, .int lin, .int oc, .int od])), (f8, .inl (cF, 5, .inr (.inr (.inl (vf_upd ww 1 (FP.fsub (ww 1) (FP.fmul (f_q kk) (ww 1)))))))), (f9, .inl (cF, 5, .inr (.inr (.inl (vf_upd wo 1 (ww 1))))))] H := hP
  have hD : va_D A [(h0, .inr (6, [.ref f1, .ref f2, .ref f3, .ref f4, .ref f5, .ref f6, .ref f7, .ref f8, .ref f9, .ref f10, .ref f11, .ref n1, .ref n2, .ref n3, .ref n4, .int sm, .int ln, .int tt, .int cm, .int dm, .int si, .int mu, .int th, .int lin, .int oc, .int od])), (f8, .inl (cF, 5, .inr (.inr (.inl (vf_upd ww 1 (FP.fsub (ww 1) (FP.fmul (f_q kk) (ww 1)))))))), (f9, .inl (cF, 5, .inr (.inr (.inl (vf_upd wo 1 (ww 1))))))] := hD
  refine lv_iinc (v := 2) (lv' := [(4, .int 2), (3, .float (f_q kk)), (0, .ref h0), (1, .int 2), (2, .int kk)]) hx hb dMod_learn_70 hl (k := 0) rfl (by decide) (by decide) rfl (fun ls hl => ?_)
  refine lv_goto (tgt := 38) hx hb dMod_learn_73 (by decide) ?_
  refine lv_iload hx hb dMod_learn_38 (lv_at hl 0 rfl) ?_
  refine lv_iload_n hx hb dMod_learn_40 rfl (lv_at hl 3 rfl) ?_
  refine lv_icmp_ge (tgt := 76) hx hb dMod_learn_41 (by decide) (fun _ => ?_) (fun c9 => absurd (by decide) c9)
  refine lv_aload_n hx hb dMod_learn_76 rfl (lv_at hl 2 rfl) ?_
  refine va_get (D := D) (ci := 6) (v := .ref f8) hx hb ht inMod hown hK hP 0 rfl rfl 7 (by decide) (ht _ kf_Mod_31) (fun _ h9 => h9) rfl dMod_learn_77 ?_
  refine lv_iload_n hx hb dMod_learn_80 rfl (lv_at hl 3 rfl) ?_
  refine lv_fload_n hx hb dMod_learn_81 rfl (lv_at hl 1 rfl) ?_
  refine k_fast (j := 2) (f1 := f_lev 2 ww (f_q kk)) hx hb hK hP hD hS 1 0 rfl rfl (by unfold vp_in; decide) rfl (ml_2 ww (f_q kk)) dMod_learn_82 (fun H locs hP hD hS => ?_)
  have hP : va_P D vwCl [(h0, .inr (6, [.ref f1, .ref f2, .ref f3, .ref f4, .ref f5, .ref f6, .ref f7, .ref f8, .ref f9, .ref f10, .ref f11, .ref n1, .ref n2, .ref n3, .ref n4, .int sm, .int ln, .int tt, .int cm, .int dm, .int si, .int mu, .int th, .int lin, .int oc, .int od])), (f8, .inl (cF, 5, .inr (.inr (.inl (f_lev 2 ww (f_q kk)))))), (f9, .inl (cF, 5, .inr (.inr (.inl (vf_upd wo 1 (ww 1))))))] H := hP
  have hD : va_D A [(h0, .inr (6, [.ref f1, .ref f2, .ref f3, .ref f4, .ref f5, .ref f6, .ref f7, .ref f8, .ref f9, .ref f10, .ref f11, .ref n1, .ref n2, .ref n3, .ref n4, .int sm, .int ln, .int tt, .int cm, .int dm, .int si, .int mu, .int th, .int lin, .int oc, .int od])), (f8, .inl (cF, 5, .inr (.inr (.inl (f_lev 2 ww (f_q kk)))))), (f9, .inl (cF, 5, .inr (.inr (.inl (vf_upd wo 1 (ww 1))))))] := hD
  have hP := hP.sub (ws' := [(h0, .inr (6, [.ref f1, .ref f2, .ref f3, .ref f4, .ref f5, .ref f6, .ref f7, .ref f8, .ref f9, .ref f10, .ref f11, .ref n1, .ref n2, .ref n3, .ref n4, .int sm, .int ln, .int tt, .int cm, .int dm, .int si, .int mu, .int th, .int lin, .int oc, .int od])), (f8, .inl (cF, 5, .inr (.inr (.inl (f_lev 2 ww (f_q kk)))))), (f9, .inl (cF, 5, .inr (.inr (.inl (vf_upd wo 1 (ww 1))))))]) [0, 1, 2] rfl
  have hD := hD.sub (ws' := [(h0, .inr (6, [.ref f1, .ref f2, .ref f3, .ref f4, .ref f5, .ref f6, .ref f7, .ref f8, .ref f9, .ref f10, .ref f11, .ref n1, .ref n2, .ref n3, .ref n4, .int sm, .int ln, .int tt, .int cm, .int dm, .int si, .int mu, .int th, .int lin, .int oc, .int od])), (f8, .inl (cF, 5, .inr (.inr (.inl (f_lev 2 ww (f_q kk)))))), (f9, .inl (cF, 5, .inr (.inr (.inl (vf_upd wo 1 (ww 1))))))]) [0, 1, 2] (by decide) rfl
  exact e_v () hx hb hr hlk hK hP hD hS rfl trivial dMod_learn_83

theorem ml_3 (ww : Nat → UInt32) (q : UInt32) : vf_upd (vf_upd (vf_upd ww 1 (FP.fsub (ww 1) (FP.fmul q (ww 2)))) 2 (FP.fsub (ww 2) (FP.fmul q (ww 1)))) 3 q = f_lev 3 ww q := by
  funext j; unfold vf_upd f_lev
  by_cases h : j = 3
  · rw [if_pos h, if_pos h]
  · rw [if_neg h, if_neg h]
    by_cases hj : 1 ≤ j ∧ j < 3
    · rw [if_pos hj]
      rcases (show j = 1 ∨ j = 2 by omega) with rfl | rfl
      · rfl
      · rfl
    · rw [if_neg hj]
      repeat' rw [if_neg (by omega)]

set_option maxHeartbeats 4000000 in
set_option maxRecDepth 100000 in
theorem c_Mod_learn_3 (l : Launch) (D : va_G) (cF cI : ClassId) (sz : Nat) (h0 f1 f2 f3 f4 f5 f6 f7 f8 f9 f10 f11 n1 n2 n3 n4 : Nat) (sm : Int32) (ln : Int32) (tt : Int32) (cm : Int32) (dm : Int32) (si : Int32) (mu : Int32) (th : Int32) (lin : Int32) (oc : Int32) (od : Int32) (ww : Nat → UInt32) (wo : Nat → UInt32) (kk : Int32) (hc : cOK kk) (hw9 : ∀ j, 1 ≤ j → j < 3 → fk 130 (ww j)) : Met l yMod_learn (.code yMod_learn cMod_learn 5 none :: TB) ({ frames := 0, cells := 0, slots := 0, locals := 0 }) (va_Pc [.ref h0, .int 3, .int kk] (cPre D cF cI [(h0, .inr (6, [.ref f1, .ref f2, .ref f3, .ref f4, .ref f5, .ref f6, .ref f7, .ref f8, .ref f9, .ref f10, .ref f11, .ref n1, .ref n2, .ref n3, .ref n4, .int sm, .int ln, .int tt, .int cm, .int dm, .int si, .int mu, .int th, .int lin, .int oc, .int od])), (f8, .inl (cF, 5, .inr (.inr (.inl ww)))), (f9, .inl (cF, 5, .inr (.inr (.inl wo))))] sz)) (va_Qv (fun _ : Unit => True) (cB D cF cI (va_A [(h0, .inr (6, [.ref f1, .ref f2, .ref f3, .ref f4, .ref f5, .ref f6, .ref f7, .ref f8, .ref f9, .ref f10, .ref f11, .ref n1, .ref n2, .ref n3, .ref n4, .int sm, .int ln, .int tt, .int cm, .int dm, .int si, .int mu, .int th, .int lin, .int oc, .int od])), (f8, .inl (cF, 5, .inr (.inr (.inl ww)))), (f9, .inl (cF, 5, .inr (.inr (.inl wo))))] sz) (fun _ : Unit => [(h0, .inr (6, [.ref f1, .ref f2, .ref f3, .ref f4, .ref f5, .ref f6, .ref f7, .ref f8, .ref f9, .ref f10, .ref f11, .ref n1, .ref n2, .ref n3, .ref n4, .int sm, .int ln, .int tt, .int cm, .int dm, .int si, .int mu, .int th, .int lin, .int oc, .int od])), (f8, .inl (cF, 5, .inr (.inr (.inl (f_lev 3 ww (f_q kk)))))), (f9, .inl (cF, 5, .inr (.inr (.inl (vf_upd (vf_upd wo 1 (ww 1)) 2 (ww 2))))))])) (va_A [(h0, .inr (6, [.ref f1, .ref f2, .ref f3, .ref f4, .ref f5, .ref f6, .ref f7, .ref f8, .ref f9, .ref f10, .ref f11, .ref n1, .ref n2, .ref n3, .ref n4, .int sm, .int ln, .int tt, .int cm, .int dm, .int si, .int mu, .int th, .int lin, .int oc, .int od])), (f8, .inl (cF, 5, .inr (.inr (.inl ww)))), (f9, .inl (cF, 5, .inr (.inr (.inl wo))))] sz)) 0 0 (va_A [(h0, .inr (6, [.ref f1, .ref f2, .ref f3, .ref f4, .ref f5, .ref f6, .ref f7, .ref f8, .ref f9, .ref f10, .ref f11, .ref n1, .ref n2, .ref n3, .ref n4, .int sm, .int ln, .int tt, .int cm, .int dm, .int si, .int mu, .int th, .int lin, .int oc, .int od])), (f8, .inl (cF, 5, .inr (.inr (.inl ww)))), (f9, .inl (cF, 5, .inr (.inr (.inl wo))))] sz) := by
  refine c_ofW (own := RMod) (by decide) rfl (fun p e s m below meth c hsz hx hb hr hml hown ht hlk hin hP hK hD hmb => ?_)
  subst hsz
  generalize hAe : va_A [(h0, .inr (6, [.ref f1, .ref f2, .ref f3, .ref f4, .ref f5, .ref f6, .ref f7, .ref f8, .ref f9, .ref f10, .ref f11, .ref n1, .ref n2, .ref n3, .ref n4, .int sm, .int ln, .int tt, .int cm, .int dm, .int si, .int mu, .int th, .int lin, .int oc, .int od])), (f8, .inl (cF, 5, .inr (.inr (.inl ww)))), (f9, .inl (cF, 5, .inr (.inr (.inl wo))))] s.heap.size = A at hD ⊢
  have hA : ∀ q : Nat, s.heap.size ≤ q → A q := fun q h => by rw [← hAe]; exact Or.inr h
  have hS : va_S A s.heap s.heap [] := va_S.rf
  have hl := lv_entry ([.ref h0, .int 3, .int kk]) (n := 5) (Nat.le_of_ble_eq_true rfl)
  rw [lg_entry_eq]
  generalize (lg_sl ([.ref h0, .int 3, .int kk]) ++ List.replicate (5 - (lg_sl ([.ref h0, .int 3, .int kk])).length) Slot.unset).toArray = ls at hl ⊢
  have hl : lv_has ls 5 [(0, .ref h0), (1, .int 3), (2, .int kk)] := hl
  refine lv_iload_n hx hb dMod_learn_0 rfl (lv_at hl 2 rfl) ?_
  refine lv_i2f hx hb dMod_learn_1 ?_
  refine lv_ldcf (v := 1098907648) hx hb hown (ht _ kk_Mod_76) dMod_learn_2 ?_
  refine lv_fdiv hx hb dMod_learn_4 (q_n hc) ?_
  refine W.eq (g2 := F0 m 5 ls [.float (f_q kk)]) rfl ?_
  refine lv_fstore_n (lv' := [(3, .float (f_q kk)), (0, .ref h0), (1, .int 3), (2, .int kk)]) hx hb dMod_learn_5 rfl hl (by decide) rfl (fun ls hl => ?_)
  refine lv_iconst (v := 1) hx hb dMod_learn_6 (by decide) ?_
  refine lv_istore (lv' := [(4, .int 1), (3, .float (f_q kk)), (0, .ref h0), (1, .int 3), (2, .int kk)]) hx hb dMod_learn_7 hl (by decide) rfl (fun ls hl => ?_)
  refine lv_iload hx hb dMod_learn_9 (lv_at hl 0 rfl) ?_
  refine lv_iload_n hx hb dMod_learn_11 rfl (lv_at hl 3 rfl) ?_
  refine lv_icmp_ge (tgt := 35) hx hb dMod_learn_12 (by decide) (fun c9 => absurd c9 (by decide)) (fun _ => ?_)
  refine lv_aload_n hx hb dMod_learn_15 rfl (lv_at hl 2 rfl) ?_
  refine va_get (D := D) (ci := 6) (v := .ref f9) hx hb ht inMod hown hK hP 0 rfl rfl 8 (by decide) (ht _ kf_Mod_34) (fun _ h9 => h9) rfl dMod_learn_16 ?_
  refine lv_iload hx hb dMod_learn_19 (lv_at hl 0 rfl) ?_
  refine lv_aload_n hx hb dMod_learn_21 rfl (lv_at hl 2 rfl) ?_
  refine va_get (D := D) (ci := 6) (v := .ref f8) hx hb ht inMod hown hK hP 0 rfl rfl 7 (by decide) (ht _ kf_Mod_31) (fun _ h9 => h9) rfl dMod_learn_22 ?_
  refine lv_iload hx hb dMod_learn_25 (lv_at hl 0 rfl) ?_
  refine k_fald (j := 1) hx hb hK hP 1 0 rfl rfl (by unfold vp_in; decide) rfl dMod_learn_27 ?_
  refine k_fast (j := 1) (f1 := vf_upd wo 1 (ww 1)) hx hb hK hP hD hS 2 0 rfl rfl (by unfold vp_in; decide) rfl rfl dMod_learn_28 (fun H locs hP hD hS => ?_)
  have hP : va_P D vwCl [(h0, .inr (6, [.ref f1, .ref f2, .ref f3, .ref f4, .ref f5, .ref f6, .ref f7, .ref f8, .ref f9, .ref f10, .ref f11, .ref n1, .ref n2, .ref n3, .ref n4, .int sm, .int ln, .int tt, .int cm, .int dm, .int si, .int mu, .int th, .int lin, .int oc, .int od])), (f8, .inl (cF, 5, .inr (.inr (.inl ww)))), (f9, .inl (cF, 5, .inr (.inr (.inl (vf_upd wo 1 (ww 1))))))] H := hP
  have hD : va_D A [(h0, .inr (6, [.ref f1, .ref f2, .ref f3, .ref f4, .ref f5, .ref f6, .ref f7, .ref f8, .ref f9, .ref f10, .ref f11, .ref n1, .ref n2, .ref n3, .ref n4, .int sm, .int ln, .int tt, .int cm, .int dm, .int si, .int mu, .int th, .int lin, .int oc, .int od])), (f8, .inl (cF, 5, .inr (.inr (.inl ww)))), (f9, .inl (cF, 5, .inr (.inr (.inl (vf_upd wo 1 (ww 1))))))] := hD
  refine lv_iinc (v := 2) (lv' := [(4, .int 2), (3, .float (f_q kk)), (0, .ref h0), (1, .int 3), (2, .int kk)]) hx hb dMod_learn_29 hl (k := 0) rfl (by decide) (by decide) rfl (fun ls hl => ?_)
  refine lv_goto (tgt := 9) hx hb dMod_learn_32 (by decide) ?_
  refine lv_iload hx hb dMod_learn_9 (lv_at hl 0 rfl) ?_
  refine lv_iload_n hx hb dMod_learn_11 rfl (lv_at hl 3 rfl) ?_
  refine lv_icmp_ge (tgt := 35) hx hb dMod_learn_12 (by decide) (fun c9 => absurd c9 (by decide)) (fun _ => ?_)
  refine lv_aload_n hx hb dMod_learn_15 rfl (lv_at hl 2 rfl) ?_
  refine va_get (D := D) (ci := 6) (v := .ref f9) hx hb ht inMod hown hK hP 0 rfl rfl 8 (by decide) (ht _ kf_Mod_34) (fun _ h9 => h9) rfl dMod_learn_16 ?_
  refine lv_iload hx hb dMod_learn_19 (lv_at hl 0 rfl) ?_
  refine lv_aload_n hx hb dMod_learn_21 rfl (lv_at hl 2 rfl) ?_
  refine va_get (D := D) (ci := 6) (v := .ref f8) hx hb ht inMod hown hK hP 0 rfl rfl 7 (by decide) (ht _ kf_Mod_31) (fun _ h9 => h9) rfl dMod_learn_22 ?_
  refine lv_iload hx hb dMod_learn_25 (lv_at hl 0 rfl) ?_
  refine k_fald (j := 2) hx hb hK hP 1 0 rfl rfl (by unfold vp_in; decide) rfl dMod_learn_27 ?_
  refine k_fast (j := 2) (f1 := vf_upd (vf_upd wo 1 (ww 1)) 2 (ww 2)) hx hb hK hP hD hS 2 0 rfl rfl (by unfold vp_in; decide) rfl rfl dMod_learn_28 (fun H locs hP hD hS => ?_)
  have hP : va_P D vwCl [(h0, .inr (6, [.ref f1, .ref f2, .ref f3, .ref f4, .ref f5, .ref f6, .ref f7, .ref f8, .ref f9, .ref f10, .ref f11, .ref n1, .ref n2, .ref n3, .ref n4, .int sm, .int ln, .int tt, .int cm, .int dm, .int si, .int mu, .int th, .int lin, .int oc, .int od])), (f8, .inl (cF, 5, .inr (.inr (.inl ww)))), (f9, .inl (cF, 5, .inr (.inr (.inl (vf_upd (vf_upd wo 1 (ww 1)) 2 (ww 2))))))] H := hP
  have hD : va_D A [(h0, .inr (6, [.ref f1, .ref f2, .ref f3, .ref f4, .ref f5, .ref f6, .ref f7, .ref f8, .ref f9, .ref f10, .ref f11, .ref n1, .ref n2, .ref n3, .ref n4, .int sm, .int ln, .int tt, .int cm, .int dm, .int si, .int mu, .int th, .int lin, .int oc, .int od])), (f8, .inl (cF, 5, .inr (.inr (.inl ww)))), (f9, .inl (cF, 5, .inr (.inr (.inl (vf_upd (vf_upd wo 1 (ww 1)) 2 (ww 2))))))] := hD
  refine lv_iinc (v := 3) (lv' := [(4, .int 3), (3, .float (f_q kk)), (0, .ref h0), (1, .int 3), (2, .int kk)]) hx hb dMod_learn_29 hl (k := 0) rfl (by decide) (by decide) rfl (fun ls hl => ?_)
  refine lv_goto (tgt := 9) hx hb dMod_learn_32 (by decide) ?_
  refine lv_iload hx hb dMod_learn_9 (lv_at hl 0 rfl) ?_
  refine lv_iload_n hx hb dMod_learn_11 rfl (lv_at hl 3 rfl) ?_
  refine lv_icmp_ge (tgt := 35) hx hb dMod_learn_12 (by decide) (fun _ => ?_) (fun c9 => absurd (by decide) c9)
  refine lv_iconst (v := 1) hx hb dMod_learn_35 (by decide) ?_
  refine lv_istore (lv' := [(4, .int 1), (3, .float (f_q kk)), (0, .ref h0), (1, .int 3), (2, .int kk)]) hx hb dMod_learn_36 hl (by decide) rfl (fun ls hl => ?_)
  refine lv_iload hx hb dMod_learn_38 (lv_at hl 0 rfl) ?_
  refine lv_iload_n hx hb dMod_learn_40 rfl (lv_at hl 3 rfl) ?_
  refine lv_icmp_ge (tgt := 76) hx hb dMod_learn_41 (by decide) (fun c9 => absurd c9 (by decide)) (fun _ => ?_)
  refine lv_aload_n hx hb dMod_learn_44 rfl (lv_at hl 2 rfl) ?_
  refine va_get (D := D) (ci := 6) (v := .ref f8) hx hb ht inMod hown hK hP 0 rfl rfl 7 (by decide) (ht _ kf_Mod_31) (fun _ h9 => h9) rfl dMod_learn_45 ?_
  refine lv_iload hx hb dMod_learn_48 (lv_at hl 0 rfl) ?_
  refine lv_aload_n hx hb dMod_learn_50 rfl (lv_at hl 2 rfl) ?_
  refine va_get (D := D) (ci := 6) (v := .ref f9) hx hb ht inMod hown hK hP 0 rfl rfl 8 (by decide) (ht _ kf_Mod_34) (fun _ h9 => h9) rfl dMod_learn_51 ?_
  refine lv_iload hx hb dMod_learn_54 (lv_at hl 0 rfl) ?_
  refine k_fald (j := 1) hx hb hK hP 2 0 rfl rfl (by unfold vp_in; decide) rfl dMod_learn_56 ?_
  refine W.eq (g2 := F0 m 57 ls [.float (ww 1), .int 1, .ref f8]) rfl ?_
  refine lv_fload_n hx hb dMod_learn_57 rfl (lv_at hl 1 rfl) ?_
  refine lv_aload_n hx hb dMod_learn_58 rfl (lv_at hl 2 rfl) ?_
  refine va_get (D := D) (ci := 6) (v := .ref f9) hx hb ht inMod hown hK hP 0 rfl rfl 8 (by decide) (ht _ kf_Mod_34) (fun _ h9 => h9) rfl dMod_learn_59 ?_
  refine lv_iload_n hx hb dMod_learn_62 rfl (lv_at hl 3 rfl) ?_
  refine lv_iload hx hb dMod_learn_63 (lv_at hl 0 rfl) ?_
  refine k_isub (v := 2) hx hb dMod_learn_65 (by decide) ?_
  refine k_fald (j := 2) hx hb hK hP 2 0 rfl rfl (by unfold vp_in; decide) rfl dMod_learn_66 ?_
  refine W.eq (g2 := F0 m 67 ls [.float (ww 2), .float (f_q kk), .float (ww 1), .int 1, .ref f8]) rfl ?_
  refine lv_fmul hx hb dMod_learn_67 (fk_n (fk_mul (q_k hc) (hw9 2 (by decide) (by decide)) (by decide) (by decide)) (by decide)) ?_
  refine lv_fsub hx hb dMod_learn_68 (fk_n (fk_sub (K := 131) (fk_mono (hw9 1 (by decide) (by decide)) (by decide)) (fk_mono (fk_mul (q_k hc) (hw9 2 (by decide) (by decide)) (by decide) (by decide)) (by decide)) (by decide)) (by decide)) ?_
  refine k_fast (j := 1) (f1 := vf_upd ww 1 (FP.fsub (ww 1) (FP.fmul (f_q kk) (ww 2)))) hx hb hK hP hD hS 1 0 rfl rfl (by unfold vp_in; decide) rfl rfl dMod_learn_69 (fun H locs hP hD hS => ?_)
  have hP : va_P D vwCl [(h0, .inr (6, [.ref f1, .ref f2, .ref f3, .ref f4, .ref f5, .ref f6, .ref f7, .ref f8, .ref f9, .ref f10, .ref f11, .ref n1, .ref n2, .ref n3, .ref n4, .int sm, .int ln, .int tt, .int cm, .int dm, .int si, .int mu, .int th, .int lin, .int oc, .int od])), (f8, .inl (cF, 5, .inr (.inr (.inl (vf_upd ww 1 (FP.fsub (ww 1) (FP.fmul (f_q kk) (ww 2)))))))), (f9, .inl (cF, 5, .inr (.inr (.inl (vf_upd (vf_upd wo 1 (ww 1)) 2 (ww 2))))))] H := hP
  have hD : va_D A [(h0, .inr (6, [.ref f1, .ref f2, .ref f3, .ref f4, .ref f5, .ref f6, .ref f7, .ref f8, .ref f9, .ref f10, .ref f11, .ref n1, .ref n2, .ref n3, .ref n4, .int sm, .int ln, .int tt, .int cm, .int dm, .int si, .int mu, .int th, .int lin, .int oc, .int od])), (f8, .inl (cF, 5, .inr (.inr (.inl (vf_upd ww 1 (FP.fsub (ww 1) (FP.fmul (f_q kk) (ww 2)))))))), (f9, .inl (cF, 5, .inr (.inr (.inl (vf_upd (vf_upd wo 1 (ww 1)) 2 (ww 2))))))] := hD
  refine lv_iinc (v := 2) (lv' := [(4, .int 2), (3, .float (f_q kk)), (0, .ref h0), (1, .int 3), (2, .int kk)]) hx hb dMod_learn_70 hl (k := 0) rfl (by decide) (by decide) rfl (fun ls hl => ?_)
  refine lv_goto (tgt := 38) hx hb dMod_learn_73 (by decide) ?_
  refine lv_iload hx hb dMod_learn_38 (lv_at hl 0 rfl) ?_
  refine lv_iload_n hx hb dMod_learn_40 rfl (lv_at hl 3 rfl) ?_
  refine lv_icmp_ge (tgt := 76) hx hb dMod_learn_41 (by decide) (fun c9 => absurd c9 (by decide)) (fun _ => ?_)
  refine lv_aload_n hx hb dMod_learn_44 rfl (lv_at hl 2 rfl) ?_
  refine va_get (D := D) (ci := 6) (v := .ref f8) hx hb ht inMod hown hK hP 0 rfl rfl 7 (by decide) (ht _ kf_Mod_31) (fun _ h9 => h9) rfl dMod_learn_45 ?_
  refine lv_iload hx hb dMod_learn_48 (lv_at hl 0 rfl) ?_
  refine lv_aload_n hx hb dMod_learn_50 rfl (lv_at hl 2 rfl) ?_
  refine va_get (D := D) (ci := 6) (v := .ref f9) hx hb ht inMod hown hK hP 0 rfl rfl 8 (by decide) (ht _ kf_Mod_34) (fun _ h9 => h9) rfl dMod_learn_51 ?_
  refine lv_iload hx hb dMod_learn_54 (lv_at hl 0 rfl) ?_
  refine k_fald (j := 2) hx hb hK hP 2 0 rfl rfl (by unfold vp_in; decide) rfl dMod_learn_56 ?_
  refine W.eq (g2 := F0 m 57 ls [.float (ww 2), .int 2, .ref f8]) rfl ?_
  refine lv_fload_n hx hb dMod_learn_57 rfl (lv_at hl 1 rfl) ?_
  refine lv_aload_n hx hb dMod_learn_58 rfl (lv_at hl 2 rfl) ?_
  refine va_get (D := D) (ci := 6) (v := .ref f9) hx hb ht inMod hown hK hP 0 rfl rfl 8 (by decide) (ht _ kf_Mod_34) (fun _ h9 => h9) rfl dMod_learn_59 ?_
  refine lv_iload_n hx hb dMod_learn_62 rfl (lv_at hl 3 rfl) ?_
  refine lv_iload hx hb dMod_learn_63 (lv_at hl 0 rfl) ?_
  refine k_isub (v := 1) hx hb dMod_learn_65 (by decide) ?_
  refine k_fald (j := 1) hx hb hK hP 2 0 rfl rfl (by unfold vp_in; decide) rfl dMod_learn_66 ?_
  refine W.eq (g2 := F0 m 67 ls [.float (ww 1), .float (f_q kk), .float (ww 2), .int 2, .ref f8]) rfl ?_
  refine lv_fmul hx hb dMod_learn_67 (fk_n (fk_mul (q_k hc) (hw9 1 (by decide) (by decide)) (by decide) (by decide)) (by decide)) ?_
  refine lv_fsub hx hb dMod_learn_68 (fk_n (fk_sub (K := 131) (fk_mono (hw9 2 (by decide) (by decide)) (by decide)) (fk_mono (fk_mul (q_k hc) (hw9 1 (by decide) (by decide)) (by decide) (by decide)) (by decide)) (by decide)) (by decide)) ?_
  refine k_fast (j := 2) (f1 := vf_upd (vf_upd ww 1 (FP.fsub (ww 1) (FP.fmul (f_q kk) (ww 2)))) 2 (FP.fsub (ww 2) (FP.fmul (f_q kk) (ww 1)))) hx hb hK hP hD hS 1 0 rfl rfl (by unfold vp_in; decide) rfl rfl dMod_learn_69 (fun H locs hP hD hS => ?_)
  have hP : va_P D vwCl [(h0, .inr (6, [.ref f1, .ref f2, .ref f3, .ref f4, .ref f5, .ref f6, .ref f7, .ref f8, .ref f9, .ref f10, .ref f11, .ref n1, .ref n2, .ref n3, .ref n4, .int sm, .int ln, .int tt, .int cm, .int dm, .int si, .int mu, .int th, .int lin, .int oc, .int od])), (f8, .inl (cF, 5, .inr (.inr (.inl (vf_upd (vf_upd ww 1 (FP.fsub (ww 1) (FP.fmul (f_q kk) (ww 2)))) 2 (FP.fsub (ww 2) (FP.fmul (f_q kk) (ww 1)))))))), (f9, .inl (cF, 5, .inr (.inr (.inl (vf_upd (vf_upd wo 1 (ww 1)) 2 (ww 2))))))] H := hP
  have hD : va_D A [(h0, .inr (6, [.ref f1, .ref f2, .ref f3, .ref f4, .ref f5, .ref f6, .ref f7, .ref f8, .ref f9, .ref f10, .ref f11, .ref n1, .ref n2, .ref n3, .ref n4, .int sm, .int ln, .int tt, .int cm, .int dm, .int si, .int mu, .int th, .int lin, .int oc, .int od])), (f8, .inl (cF, 5, .inr (.inr (.inl (vf_upd (vf_upd ww 1 (FP.fsub (ww 1) (FP.fmul (f_q kk) (ww 2)))) 2 (FP.fsub (ww 2) (FP.fmul (f_q kk) (ww 1)))))))), (f9, .inl (cF, 5, .inr (.inr (.inl (vf_upd (vf_upd wo 1 (ww 1)) 2 (ww 2))))))] := hD
  refine lv_iinc (v := 3) (lv' := [(4, .int 3), (3, .float (f_q kk)), (0, .ref h0), (1, .int 3), (2, .int kk)]) hx hb dMod_learn_70 hl (k := 0) rfl (by decide) (by decide) rfl (fun ls hl => ?_)
  refine lv_goto (tgt := 38) hx hb dMod_learn_73 (by decide) ?_
  refine lv_iload hx hb dMod_learn_38 (lv_at hl 0 rfl) ?_
  refine lv_iload_n hx hb dMod_learn_40 rfl (lv_at hl 3 rfl) ?_
  refine lv_icmp_ge (tgt := 76) hx hb dMod_learn_41 (by decide) (fun _ => ?_) (fun c9 => absurd (by decide) c9)
  refine lv_aload_n hx hb dMod_learn_76 rfl (lv_at hl 2 rfl) ?_
  refine va_get (D := D) (ci := 6) (v := .ref f8) hx hb ht inMod hown hK hP 0 rfl rfl 7 (by decide) (ht _ kf_Mod_31) (fun _ h9 => h9) rfl dMod_learn_77 ?_
  refine lv_iload_n hx hb dMod_learn_80 rfl (lv_at hl 3 rfl) ?_
  refine lv_fload_n hx hb dMod_learn_81 rfl (lv_at hl 1 rfl) ?_
  refine k_fast (j := 3) (f1 := f_lev 3 ww (f_q kk)) hx hb hK hP hD hS 1 0 rfl rfl (by unfold vp_in; decide) rfl (ml_3 ww (f_q kk)) dMod_learn_82 (fun H locs hP hD hS => ?_)
  have hP : va_P D vwCl [(h0, .inr (6, [.ref f1, .ref f2, .ref f3, .ref f4, .ref f5, .ref f6, .ref f7, .ref f8, .ref f9, .ref f10, .ref f11, .ref n1, .ref n2, .ref n3, .ref n4, .int sm, .int ln, .int tt, .int cm, .int dm, .int si, .int mu, .int th, .int lin, .int oc, .int od])), (f8, .inl (cF, 5, .inr (.inr (.inl (f_lev 3 ww (f_q kk)))))), (f9, .inl (cF, 5, .inr (.inr (.inl (vf_upd (vf_upd wo 1 (ww 1)) 2 (ww 2))))))] H := hP
  have hD : va_D A [(h0, .inr (6, [.ref f1, .ref f2, .ref f3, .ref f4, .ref f5, .ref f6, .ref f7, .ref f8, .ref f9, .ref f10, .ref f11, .ref n1, .ref n2, .ref n3, .ref n4, .int sm, .int ln, .int tt, .int cm, .int dm, .int si, .int mu, .int th, .int lin, .int oc, .int od])), (f8, .inl (cF, 5, .inr (.inr (.inl (f_lev 3 ww (f_q kk)))))), (f9, .inl (cF, 5, .inr (.inr (.inl (vf_upd (vf_upd wo 1 (ww 1)) 2 (ww 2))))))] := hD
  have hP := hP.sub (ws' := [(h0, .inr (6, [.ref f1, .ref f2, .ref f3, .ref f4, .ref f5, .ref f6, .ref f7, .ref f8, .ref f9, .ref f10, .ref f11, .ref n1, .ref n2, .ref n3, .ref n4, .int sm, .int ln, .int tt, .int cm, .int dm, .int si, .int mu, .int th, .int lin, .int oc, .int od])), (f8, .inl (cF, 5, .inr (.inr (.inl (f_lev 3 ww (f_q kk)))))), (f9, .inl (cF, 5, .inr (.inr (.inl (vf_upd (vf_upd wo 1 (ww 1)) 2 (ww 2))))))]) [0, 1, 2] rfl
  have hD := hD.sub (ws' := [(h0, .inr (6, [.ref f1, .ref f2, .ref f3, .ref f4, .ref f5, .ref f6, .ref f7, .ref f8, .ref f9, .ref f10, .ref f11, .ref n1, .ref n2, .ref n3, .ref n4, .int sm, .int ln, .int tt, .int cm, .int dm, .int si, .int mu, .int th, .int lin, .int oc, .int od])), (f8, .inl (cF, 5, .inr (.inr (.inl (f_lev 3 ww (f_q kk)))))), (f9, .inl (cF, 5, .inr (.inr (.inl (vf_upd (vf_upd wo 1 (ww 1)) 2 (ww 2))))))]) [0, 1, 2] (by decide) rfl
  exact e_v () hx hb hr hlk hK hP hD hS rfl trivial dMod_learn_83

theorem ml_4 (ww : Nat → UInt32) (q : UInt32) : vf_upd (vf_upd (vf_upd (vf_upd ww 1 (FP.fsub (ww 1) (FP.fmul q (ww 3)))) 2 (FP.fsub (ww 2) (FP.fmul q (ww 2)))) 3 (FP.fsub (ww 3) (FP.fmul q (ww 1)))) 4 q = f_lev 4 ww q := by
  funext j; unfold vf_upd f_lev
  by_cases h : j = 4
  · rw [if_pos h, if_pos h]
  · rw [if_neg h, if_neg h]
    by_cases hj : 1 ≤ j ∧ j < 4
    · rw [if_pos hj]
      rcases (show j = 1 ∨ j = 2 ∨ j = 3 by omega) with rfl | rfl | rfl
      · rfl
      · rfl
      · rfl
    · rw [if_neg hj]
      repeat' rw [if_neg (by omega)]

set_option maxHeartbeats 4000000 in
set_option maxRecDepth 100000 in
theorem c_Mod_learn_4 (l : Launch) (D : va_G) (cF cI : ClassId) (sz : Nat) (h0 f1 f2 f3 f4 f5 f6 f7 f8 f9 f10 f11 n1 n2 n3 n4 : Nat) (sm : Int32) (ln : Int32) (tt : Int32) (cm : Int32) (dm : Int32) (si : Int32) (mu : Int32) (th : Int32) (lin : Int32) (oc : Int32) (od : Int32) (ww : Nat → UInt32) (wo : Nat → UInt32) (kk : Int32) (hc : cOK kk) (hw9 : ∀ j, 1 ≤ j → j < 4 → fk 133 (ww j)) : Met l yMod_learn (.code yMod_learn cMod_learn 5 none :: TB) ({ frames := 0, cells := 0, slots := 0, locals := 0 }) (va_Pc [.ref h0, .int 4, .int kk] (cPre D cF cI [(h0, .inr (6, [.ref f1, .ref f2, .ref f3, .ref f4, .ref f5, .ref f6, .ref f7, .ref f8, .ref f9, .ref f10, .ref f11, .ref n1, .ref n2, .ref n3, .ref n4, .int sm, .int ln, .int tt, .int cm, .int dm, .int si, .int mu, .int th, .int lin, .int oc, .int od])), (f8, .inl (cF, 5, .inr (.inr (.inl ww)))), (f9, .inl (cF, 5, .inr (.inr (.inl wo))))] sz)) (va_Qv (fun _ : Unit => True) (cB D cF cI (va_A [(h0, .inr (6, [.ref f1, .ref f2, .ref f3, .ref f4, .ref f5, .ref f6, .ref f7, .ref f8, .ref f9, .ref f10, .ref f11, .ref n1, .ref n2, .ref n3, .ref n4, .int sm, .int ln, .int tt, .int cm, .int dm, .int si, .int mu, .int th, .int lin, .int oc, .int od])), (f8, .inl (cF, 5, .inr (.inr (.inl ww)))), (f9, .inl (cF, 5, .inr (.inr (.inl wo))))] sz) (fun _ : Unit => [(h0, .inr (6, [.ref f1, .ref f2, .ref f3, .ref f4, .ref f5, .ref f6, .ref f7, .ref f8, .ref f9, .ref f10, .ref f11, .ref n1, .ref n2, .ref n3, .ref n4, .int sm, .int ln, .int tt, .int cm, .int dm, .int si, .int mu, .int th, .int lin, .int oc, .int od])), (f8, .inl (cF, 5, .inr (.inr (.inl (f_lev 4 ww (f_q kk)))))), (f9, .inl (cF, 5, .inr (.inr (.inl (vf_upd (vf_upd (vf_upd wo 1 (ww 1)) 2 (ww 2)) 3 (ww 3))))))])) (va_A [(h0, .inr (6, [.ref f1, .ref f2, .ref f3, .ref f4, .ref f5, .ref f6, .ref f7, .ref f8, .ref f9, .ref f10, .ref f11, .ref n1, .ref n2, .ref n3, .ref n4, .int sm, .int ln, .int tt, .int cm, .int dm, .int si, .int mu, .int th, .int lin, .int oc, .int od])), (f8, .inl (cF, 5, .inr (.inr (.inl ww)))), (f9, .inl (cF, 5, .inr (.inr (.inl wo))))] sz)) 0 0 (va_A [(h0, .inr (6, [.ref f1, .ref f2, .ref f3, .ref f4, .ref f5, .ref f6, .ref f7, .ref f8, .ref f9, .ref f10, .ref f11, .ref n1, .ref n2, .ref n3, .ref n4, .int sm, .int ln, .int tt, .int cm, .int dm, .int si, .int mu, .int th, .int lin, .int oc, .int od])), (f8, .inl (cF, 5, .inr (.inr (.inl ww)))), (f9, .inl (cF, 5, .inr (.inr (.inl wo))))] sz) := by
  refine c_ofW (own := RMod) (by decide) rfl (fun p e s m below meth c hsz hx hb hr hml hown ht hlk hin hP hK hD hmb => ?_)
  subst hsz
  generalize hAe : va_A [(h0, .inr (6, [.ref f1, .ref f2, .ref f3, .ref f4, .ref f5, .ref f6, .ref f7, .ref f8, .ref f9, .ref f10, .ref f11, .ref n1, .ref n2, .ref n3, .ref n4, .int sm, .int ln, .int tt, .int cm, .int dm, .int si, .int mu, .int th, .int lin, .int oc, .int od])), (f8, .inl (cF, 5, .inr (.inr (.inl ww)))), (f9, .inl (cF, 5, .inr (.inr (.inl wo))))] s.heap.size = A at hD ⊢
  have hA : ∀ q : Nat, s.heap.size ≤ q → A q := fun q h => by rw [← hAe]; exact Or.inr h
  have hS : va_S A s.heap s.heap [] := va_S.rf
  have hl := lv_entry ([.ref h0, .int 4, .int kk]) (n := 5) (Nat.le_of_ble_eq_true rfl)
  rw [lg_entry_eq]
  generalize (lg_sl ([.ref h0, .int 4, .int kk]) ++ List.replicate (5 - (lg_sl ([.ref h0, .int 4, .int kk])).length) Slot.unset).toArray = ls at hl ⊢
  have hl : lv_has ls 5 [(0, .ref h0), (1, .int 4), (2, .int kk)] := hl
  refine lv_iload_n hx hb dMod_learn_0 rfl (lv_at hl 2 rfl) ?_
  refine lv_i2f hx hb dMod_learn_1 ?_
  refine lv_ldcf (v := 1098907648) hx hb hown (ht _ kk_Mod_76) dMod_learn_2 ?_
  refine lv_fdiv hx hb dMod_learn_4 (q_n hc) ?_
  refine W.eq (g2 := F0 m 5 ls [.float (f_q kk)]) rfl ?_
  refine lv_fstore_n (lv' := [(3, .float (f_q kk)), (0, .ref h0), (1, .int 4), (2, .int kk)]) hx hb dMod_learn_5 rfl hl (by decide) rfl (fun ls hl => ?_)
  refine lv_iconst (v := 1) hx hb dMod_learn_6 (by decide) ?_
  refine lv_istore (lv' := [(4, .int 1), (3, .float (f_q kk)), (0, .ref h0), (1, .int 4), (2, .int kk)]) hx hb dMod_learn_7 hl (by decide) rfl (fun ls hl => ?_)
  refine lv_iload hx hb dMod_learn_9 (lv_at hl 0 rfl) ?_
  refine lv_iload_n hx hb dMod_learn_11 rfl (lv_at hl 3 rfl) ?_
  refine lv_icmp_ge (tgt := 35) hx hb dMod_learn_12 (by decide) (fun c9 => absurd c9 (by decide)) (fun _ => ?_)
  refine lv_aload_n hx hb dMod_learn_15 rfl (lv_at hl 2 rfl) ?_
  refine va_get (D := D) (ci := 6) (v := .ref f9) hx hb ht inMod hown hK hP 0 rfl rfl 8 (by decide) (ht _ kf_Mod_34) (fun _ h9 => h9) rfl dMod_learn_16 ?_
  refine lv_iload hx hb dMod_learn_19 (lv_at hl 0 rfl) ?_
  refine lv_aload_n hx hb dMod_learn_21 rfl (lv_at hl 2 rfl) ?_
  refine va_get (D := D) (ci := 6) (v := .ref f8) hx hb ht inMod hown hK hP 0 rfl rfl 7 (by decide) (ht _ kf_Mod_31) (fun _ h9 => h9) rfl dMod_learn_22 ?_
  refine lv_iload hx hb dMod_learn_25 (lv_at hl 0 rfl) ?_
  refine k_fald (j := 1) hx hb hK hP 1 0 rfl rfl (by unfold vp_in; decide) rfl dMod_learn_27 ?_
  refine k_fast (j := 1) (f1 := vf_upd wo 1 (ww 1)) hx hb hK hP hD hS 2 0 rfl rfl (by unfold vp_in; decide) rfl rfl dMod_learn_28 (fun H locs hP hD hS => ?_)
  have hP : va_P D vwCl [(h0, .inr (6, [.ref f1, .ref f2, .ref f3, .ref f4, .ref f5, .ref f6, .ref f7, .ref f8, .ref f9, .ref f10, .ref f11, .ref n1, .ref n2, .ref n3, .ref n4, .int sm, .int ln, .int tt, .int cm, .int dm, .int si, .int mu, .int th, .int lin, .int oc, .int od])), (f8, .inl (cF, 5, .inr (.inr (.inl ww)))), (f9, .inl (cF, 5, .inr (.inr (.inl (vf_upd wo 1 (ww 1))))))] H := hP
  have hD : va_D A [(h0, .inr (6, [.ref f1, .ref f2, .ref f3, .ref f4, .ref f5, .ref f6, .ref f7, .ref f8, .ref f9, .ref f10, .ref f11, .ref n1, .ref n2, .ref n3, .ref n4, .int sm, .int ln, .int tt, .int cm, .int dm, .int si, .int mu, .int th, .int lin, .int oc, .int od])), (f8, .inl (cF, 5, .inr (.inr (.inl ww)))), (f9, .inl (cF, 5, .inr (.inr (.inl (vf_upd wo 1 (ww 1))))))] := hD
  refine lv_iinc (v := 2) (lv' := [(4, .int 2), (3, .float (f_q kk)), (0, .ref h0), (1, .int 4), (2, .int kk)]) hx hb dMod_learn_29 hl (k := 0) rfl (by decide) (by decide) rfl (fun ls hl => ?_)
  refine lv_goto (tgt := 9) hx hb dMod_learn_32 (by decide) ?_
  refine lv_iload hx hb dMod_learn_9 (lv_at hl 0 rfl) ?_
  refine lv_iload_n hx hb dMod_learn_11 rfl (lv_at hl 3 rfl) ?_
  refine lv_icmp_ge (tgt := 35) hx hb dMod_learn_12 (by decide) (fun c9 => absurd c9 (by decide)) (fun _ => ?_)
  refine lv_aload_n hx hb dMod_learn_15 rfl (lv_at hl 2 rfl) ?_
  refine va_get (D := D) (ci := 6) (v := .ref f9) hx hb ht inMod hown hK hP 0 rfl rfl 8 (by decide) (ht _ kf_Mod_34) (fun _ h9 => h9) rfl dMod_learn_16 ?_
  refine lv_iload hx hb dMod_learn_19 (lv_at hl 0 rfl) ?_
  refine lv_aload_n hx hb dMod_learn_21 rfl (lv_at hl 2 rfl) ?_
  refine va_get (D := D) (ci := 6) (v := .ref f8) hx hb ht inMod hown hK hP 0 rfl rfl 7 (by decide) (ht _ kf_Mod_31) (fun _ h9 => h9) rfl dMod_learn_22 ?_
  refine lv_iload hx hb dMod_learn_25 (lv_at hl 0 rfl) ?_
  refine k_fald (j := 2) hx hb hK hP 1 0 rfl rfl (by unfold vp_in; decide) rfl dMod_learn_27 ?_
  refine k_fast (j := 2) (f1 := vf_upd (vf_upd wo 1 (ww 1)) 2 (ww 2)) hx hb hK hP hD hS 2 0 rfl rfl (by unfold vp_in; decide) rfl rfl dMod_learn_28 (fun H locs hP hD hS => ?_)
  have hP : va_P D vwCl [(h0, .inr (6, [.ref f1, .ref f2, .ref f3, .ref f4, .ref f5, .ref f6, .ref f7, .ref f8, .ref f9, .ref f10, .ref f11, .ref n1, .ref n2, .ref n3, .ref n4, .int sm, .int ln, .int tt, .int cm, .int dm, .int si, .int mu, .int th, .int lin, .int oc, .int od])), (f8, .inl (cF, 5, .inr (.inr (.inl ww)))), (f9, .inl (cF, 5, .inr (.inr (.inl (vf_upd (vf_upd wo 1 (ww 1)) 2 (ww 2))))))] H := hP
  have hD : va_D A [(h0, .inr (6, [.ref f1, .ref f2, .ref f3, .ref f4, .ref f5, .ref f6, .ref f7, .ref f8, .ref f9, .ref f10, .ref f11, .ref n1, .ref n2, .ref n3, .ref n4, .int sm, .int ln, .int tt, .int cm, .int dm, .int si, .int mu, .int th, .int lin, .int oc, .int od])), (f8, .inl (cF, 5, .inr (.inr (.inl ww)))), (f9, .inl (cF, 5, .inr (.inr (.inl (vf_upd (vf_upd wo 1 (ww 1)) 2 (ww 2))))))] := hD
  refine lv_iinc (v := 3) (lv' := [(4, .int 3), (3, .float (f_q kk)), (0, .ref h0), (1, .int 4), (2, .int kk)]) hx hb dMod_learn_29 hl (k := 0) rfl (by decide) (by decide) rfl (fun ls hl => ?_)
  refine lv_goto (tgt := 9) hx hb dMod_learn_32 (by decide) ?_
  refine lv_iload hx hb dMod_learn_9 (lv_at hl 0 rfl) ?_
  refine lv_iload_n hx hb dMod_learn_11 rfl (lv_at hl 3 rfl) ?_
  refine lv_icmp_ge (tgt := 35) hx hb dMod_learn_12 (by decide) (fun c9 => absurd c9 (by decide)) (fun _ => ?_)
  refine lv_aload_n hx hb dMod_learn_15 rfl (lv_at hl 2 rfl) ?_
  refine va_get (D := D) (ci := 6) (v := .ref f9) hx hb ht inMod hown hK hP 0 rfl rfl 8 (by decide) (ht _ kf_Mod_34) (fun _ h9 => h9) rfl dMod_learn_16 ?_
  refine lv_iload hx hb dMod_learn_19 (lv_at hl 0 rfl) ?_
  refine lv_aload_n hx hb dMod_learn_21 rfl (lv_at hl 2 rfl) ?_
  refine va_get (D := D) (ci := 6) (v := .ref f8) hx hb ht inMod hown hK hP 0 rfl rfl 7 (by decide) (ht _ kf_Mod_31) (fun _ h9 => h9) rfl dMod_learn_22 ?_
  refine lv_iload hx hb dMod_learn_25 (lv_at hl 0 rfl) ?_
  refine k_fald (j := 3) hx hb hK hP 1 0 rfl rfl (by unfold vp_in; decide) rfl dMod_learn_27 ?_
  refine k_fast (j := 3) (f1 := vf_upd (vf_upd (vf_upd wo 1 (ww 1)) 2 (ww 2)) 3 (ww 3)) hx hb hK hP hD hS 2 0 rfl rfl (by unfold vp_in; decide) rfl rfl dMod_learn_28 (fun H locs hP hD hS => ?_)
  have hP : va_P D vwCl [(h0, .inr (6, [.ref f1, .ref f2, .ref f3, .ref f4, .ref f5, .ref f6, .ref f7, .ref f8, .ref f9, .ref f10, .ref f11, .ref n1, .ref n2, .ref n3, .ref n4, .int sm, .int ln, .int tt, .int cm, .int dm, .int si, .int mu, .int th, .int lin, .int oc, .int od])), (f8, .inl (cF, 5, .inr (.inr (.inl ww)))), (f9, .inl (cF, 5, .inr (.inr (.inl (vf_upd (vf_upd (vf_upd wo 1 (ww 1)) 2 (ww 2)) 3 (ww 3))))))] H := hP
  have hD : va_D A [(h0, .inr (6, [.ref f1, .ref f2, .ref f3, .ref f4, .ref f5, .ref f6, .ref f7, .ref f8, .ref f9, .ref f10, .ref f11, .ref n1, .ref n2, .ref n3, .ref n4, .int sm, .int ln, .int tt, .int cm, .int dm, .int si, .int mu, .int th, .int lin, .int oc, .int od])), (f8, .inl (cF, 5, .inr (.inr (.inl ww)))), (f9, .inl (cF, 5, .inr (.inr (.inl (vf_upd (vf_upd (vf_upd wo 1 (ww 1)) 2 (ww 2)) 3 (ww 3))))))] := hD
  refine lv_iinc (v := 4) (lv' := [(4, .int 4), (3, .float (f_q kk)), (0, .ref h0), (1, .int 4), (2, .int kk)]) hx hb dMod_learn_29 hl (k := 0) rfl (by decide) (by decide) rfl (fun ls hl => ?_)
  refine lv_goto (tgt := 9) hx hb dMod_learn_32 (by decide) ?_
  refine lv_iload hx hb dMod_learn_9 (lv_at hl 0 rfl) ?_
  refine lv_iload_n hx hb dMod_learn_11 rfl (lv_at hl 3 rfl) ?_
  refine lv_icmp_ge (tgt := 35) hx hb dMod_learn_12 (by decide) (fun _ => ?_) (fun c9 => absurd (by decide) c9)
  refine lv_iconst (v := 1) hx hb dMod_learn_35 (by decide) ?_
  refine lv_istore (lv' := [(4, .int 1), (3, .float (f_q kk)), (0, .ref h0), (1, .int 4), (2, .int kk)]) hx hb dMod_learn_36 hl (by decide) rfl (fun ls hl => ?_)
  refine lv_iload hx hb dMod_learn_38 (lv_at hl 0 rfl) ?_
  refine lv_iload_n hx hb dMod_learn_40 rfl (lv_at hl 3 rfl) ?_
  refine lv_icmp_ge (tgt := 76) hx hb dMod_learn_41 (by decide) (fun c9 => absurd c9 (by decide)) (fun _ => ?_)
  refine lv_aload_n hx hb dMod_learn_44 rfl (lv_at hl 2 rfl) ?_
  refine va_get (D := D) (ci := 6) (v := .ref f8) hx hb ht inMod hown hK hP 0 rfl rfl 7 (by decide) (ht _ kf_Mod_31) (fun _ h9 => h9) rfl dMod_learn_45 ?_
  refine lv_iload hx hb dMod_learn_48 (lv_at hl 0 rfl) ?_
  refine lv_aload_n hx hb dMod_learn_50 rfl (lv_at hl 2 rfl) ?_
  refine va_get (D := D) (ci := 6) (v := .ref f9) hx hb ht inMod hown hK hP 0 rfl rfl 8 (by decide) (ht _ kf_Mod_34) (fun _ h9 => h9) rfl dMod_learn_51 ?_
  refine lv_iload hx hb dMod_learn_54 (lv_at hl 0 rfl) ?_
  refine k_fald (j := 1) hx hb hK hP 2 0 rfl rfl (by unfold vp_in; decide) rfl dMod_learn_56 ?_
  refine W.eq (g2 := F0 m 57 ls [.float (ww 1), .int 1, .ref f8]) rfl ?_
  refine lv_fload_n hx hb dMod_learn_57 rfl (lv_at hl 1 rfl) ?_
  refine lv_aload_n hx hb dMod_learn_58 rfl (lv_at hl 2 rfl) ?_
  refine va_get (D := D) (ci := 6) (v := .ref f9) hx hb ht inMod hown hK hP 0 rfl rfl 8 (by decide) (ht _ kf_Mod_34) (fun _ h9 => h9) rfl dMod_learn_59 ?_
  refine lv_iload_n hx hb dMod_learn_62 rfl (lv_at hl 3 rfl) ?_
  refine lv_iload hx hb dMod_learn_63 (lv_at hl 0 rfl) ?_
  refine k_isub (v := 3) hx hb dMod_learn_65 (by decide) ?_
  refine k_fald (j := 3) hx hb hK hP 2 0 rfl rfl (by unfold vp_in; decide) rfl dMod_learn_66 ?_
  refine W.eq (g2 := F0 m 67 ls [.float (ww 3), .float (f_q kk), .float (ww 1), .int 1, .ref f8]) rfl ?_
  refine lv_fmul hx hb dMod_learn_67 (fk_n (fk_mul (q_k hc) (hw9 3 (by decide) (by decide)) (by decide) (by decide)) (by decide)) ?_
  refine lv_fsub hx hb dMod_learn_68 (fk_n (fk_sub (K := 134) (fk_mono (hw9 1 (by decide) (by decide)) (by decide)) (fk_mono (fk_mul (q_k hc) (hw9 3 (by decide) (by decide)) (by decide) (by decide)) (by decide)) (by decide)) (by decide)) ?_
  refine k_fast (j := 1) (f1 := vf_upd ww 1 (FP.fsub (ww 1) (FP.fmul (f_q kk) (ww 3)))) hx hb hK hP hD hS 1 0 rfl rfl (by unfold vp_in; decide) rfl rfl dMod_learn_69 (fun H locs hP hD hS => ?_)
  have hP : va_P D vwCl [(h0, .inr (6, [.ref f1, .ref f2, .ref f3, .ref f4, .ref f5, .ref f6, .ref f7, .ref f8, .ref f9, .ref f10, .ref f11, .ref n1, .ref n2, .ref n3, .ref n4, .int sm, .int ln, .int tt, .int cm, .int dm, .int si, .int mu, .int th, .int lin, .int oc, .int od])), (f8, .inl (cF, 5, .inr (.inr (.inl (vf_upd ww 1 (FP.fsub (ww 1) (FP.fmul (f_q kk) (ww 3)))))))), (f9, .inl (cF, 5, .inr (.inr (.inl (vf_upd (vf_upd (vf_upd wo 1 (ww 1)) 2 (ww 2)) 3 (ww 3))))))] H := hP
  have hD : va_D A [(h0, .inr (6, [.ref f1, .ref f2, .ref f3, .ref f4, .ref f5, .ref f6, .ref f7, .ref f8, .ref f9, .ref f10, .ref f11, .ref n1, .ref n2, .ref n3, .ref n4, .int sm, .int ln, .int tt, .int cm, .int dm, .int si, .int mu, .int th, .int lin, .int oc, .int od])), (f8, .inl (cF, 5, .inr (.inr (.inl (vf_upd ww 1 (FP.fsub (ww 1) (FP.fmul (f_q kk) (ww 3)))))))), (f9, .inl (cF, 5, .inr (.inr (.inl (vf_upd (vf_upd (vf_upd wo 1 (ww 1)) 2 (ww 2)) 3 (ww 3))))))] := hD
  refine lv_iinc (v := 2) (lv' := [(4, .int 2), (3, .float (f_q kk)), (0, .ref h0), (1, .int 4), (2, .int kk)]) hx hb dMod_learn_70 hl (k := 0) rfl (by decide) (by decide) rfl (fun ls hl => ?_)
  refine lv_goto (tgt := 38) hx hb dMod_learn_73 (by decide) ?_
  refine lv_iload hx hb dMod_learn_38 (lv_at hl 0 rfl) ?_
  refine lv_iload_n hx hb dMod_learn_40 rfl (lv_at hl 3 rfl) ?_
  refine lv_icmp_ge (tgt := 76) hx hb dMod_learn_41 (by decide) (fun c9 => absurd c9 (by decide)) (fun _ => ?_)
  refine lv_aload_n hx hb dMod_learn_44 rfl (lv_at hl 2 rfl) ?_
  refine va_get (D := D) (ci := 6) (v := .ref f8) hx hb ht inMod hown hK hP 0 rfl rfl 7 (by decide) (ht _ kf_Mod_31) (fun _ h9 => h9) rfl dMod_learn_45 ?_
  refine lv_iload hx hb dMod_learn_48 (lv_at hl 0 rfl) ?_
  refine lv_aload_n hx hb dMod_learn_50 rfl (lv_at hl 2 rfl) ?_
  refine va_get (D := D) (ci := 6) (v := .ref f9) hx hb ht inMod hown hK hP 0 rfl rfl 8 (by decide) (ht _ kf_Mod_34) (fun _ h9 => h9) rfl dMod_learn_51 ?_
  refine lv_iload hx hb dMod_learn_54 (lv_at hl 0 rfl) ?_
  refine k_fald (j := 2) hx hb hK hP 2 0 rfl rfl (by unfold vp_in; decide) rfl dMod_learn_56 ?_
  refine W.eq (g2 := F0 m 57 ls [.float (ww 2), .int 2, .ref f8]) rfl ?_
  refine lv_fload_n hx hb dMod_learn_57 rfl (lv_at hl 1 rfl) ?_
  refine lv_aload_n hx hb dMod_learn_58 rfl (lv_at hl 2 rfl) ?_
  refine va_get (D := D) (ci := 6) (v := .ref f9) hx hb ht inMod hown hK hP 0 rfl rfl 8 (by decide) (ht _ kf_Mod_34) (fun _ h9 => h9) rfl dMod_learn_59 ?_
  refine lv_iload_n hx hb dMod_learn_62 rfl (lv_at hl 3 rfl) ?_
  refine lv_iload hx hb dMod_learn_63 (lv_at hl 0 rfl) ?_
  refine k_isub (v := 2) hx hb dMod_learn_65 (by decide) ?_
  refine k_fald (j := 2) hx hb hK hP 2 0 rfl rfl (by unfold vp_in; decide) rfl dMod_learn_66 ?_
  refine W.eq (g2 := F0 m 67 ls [.float (ww 2), .float (f_q kk), .float (ww 2), .int 2, .ref f8]) rfl ?_
  refine lv_fmul hx hb dMod_learn_67 (fk_n (fk_mul (q_k hc) (hw9 2 (by decide) (by decide)) (by decide) (by decide)) (by decide)) ?_
  refine lv_fsub hx hb dMod_learn_68 (fk_n (fk_sub (K := 134) (fk_mono (hw9 2 (by decide) (by decide)) (by decide)) (fk_mono (fk_mul (q_k hc) (hw9 2 (by decide) (by decide)) (by decide) (by decide)) (by decide)) (by decide)) (by decide)) ?_
  refine k_fast (j := 2) (f1 := vf_upd (vf_upd ww 1 (FP.fsub (ww 1) (FP.fmul (f_q kk) (ww 3)))) 2 (FP.fsub (ww 2) (FP.fmul (f_q kk) (ww 2)))) hx hb hK hP hD hS 1 0 rfl rfl (by unfold vp_in; decide) rfl rfl dMod_learn_69 (fun H locs hP hD hS => ?_)
  have hP : va_P D vwCl [(h0, .inr (6, [.ref f1, .ref f2, .ref f3, .ref f4, .ref f5, .ref f6, .ref f7, .ref f8, .ref f9, .ref f10, .ref f11, .ref n1, .ref n2, .ref n3, .ref n4, .int sm, .int ln, .int tt, .int cm, .int dm, .int si, .int mu, .int th, .int lin, .int oc, .int od])), (f8, .inl (cF, 5, .inr (.inr (.inl (vf_upd (vf_upd ww 1 (FP.fsub (ww 1) (FP.fmul (f_q kk) (ww 3)))) 2 (FP.fsub (ww 2) (FP.fmul (f_q kk) (ww 2)))))))), (f9, .inl (cF, 5, .inr (.inr (.inl (vf_upd (vf_upd (vf_upd wo 1 (ww 1)) 2 (ww 2)) 3 (ww 3))))))] H := hP
  have hD : va_D A [(h0, .inr (6, [.ref f1, .ref f2, .ref f3, .ref f4, .ref f5, .ref f6, .ref f7, .ref f8, .ref f9, .ref f10, .ref f11, .ref n1, .ref n2, .ref n3, .ref n4, .int sm, .int ln, .int tt, .int cm, .int dm, .int si, .int mu, .int th, .int lin, .int oc, .int od])), (f8, .inl (cF, 5, .inr (.inr (.inl (vf_upd (vf_upd ww 1 (FP.fsub (ww 1) (FP.fmul (f_q kk) (ww 3)))) 2 (FP.fsub (ww 2) (FP.fmul (f_q kk) (ww 2)))))))), (f9, .inl (cF, 5, .inr (.inr (.inl (vf_upd (vf_upd (vf_upd wo 1 (ww 1)) 2 (ww 2)) 3 (ww 3))))))] := hD
  refine lv_iinc (v := 3) (lv' := [(4, .int 3), (3, .float (f_q kk)), (0, .ref h0), (1, .int 4), (2, .int kk)]) hx hb dMod_learn_70 hl (k := 0) rfl (by decide) (by decide) rfl (fun ls hl => ?_)
  refine lv_goto (tgt := 38) hx hb dMod_learn_73 (by decide) ?_
  refine lv_iload hx hb dMod_learn_38 (lv_at hl 0 rfl) ?_
  refine lv_iload_n hx hb dMod_learn_40 rfl (lv_at hl 3 rfl) ?_
  refine lv_icmp_ge (tgt := 76) hx hb dMod_learn_41 (by decide) (fun c9 => absurd c9 (by decide)) (fun _ => ?_)
  refine lv_aload_n hx hb dMod_learn_44 rfl (lv_at hl 2 rfl) ?_
  refine va_get (D := D) (ci := 6) (v := .ref f8) hx hb ht inMod hown hK hP 0 rfl rfl 7 (by decide) (ht _ kf_Mod_31) (fun _ h9 => h9) rfl dMod_learn_45 ?_
  refine lv_iload hx hb dMod_learn_48 (lv_at hl 0 rfl) ?_
  refine lv_aload_n hx hb dMod_learn_50 rfl (lv_at hl 2 rfl) ?_
  refine va_get (D := D) (ci := 6) (v := .ref f9) hx hb ht inMod hown hK hP 0 rfl rfl 8 (by decide) (ht _ kf_Mod_34) (fun _ h9 => h9) rfl dMod_learn_51 ?_
  refine lv_iload hx hb dMod_learn_54 (lv_at hl 0 rfl) ?_
  refine k_fald (j := 3) hx hb hK hP 2 0 rfl rfl (by unfold vp_in; decide) rfl dMod_learn_56 ?_
  refine W.eq (g2 := F0 m 57 ls [.float (ww 3), .int 3, .ref f8]) rfl ?_
  refine lv_fload_n hx hb dMod_learn_57 rfl (lv_at hl 1 rfl) ?_
  refine lv_aload_n hx hb dMod_learn_58 rfl (lv_at hl 2 rfl) ?_
  refine va_get (D := D) (ci := 6) (v := .ref f9) hx hb ht inMod hown hK hP 0 rfl rfl 8 (by decide) (ht _ kf_Mod_34) (fun _ h9 => h9) rfl dMod_learn_59 ?_
  refine lv_iload_n hx hb dMod_learn_62 rfl (lv_at hl 3 rfl) ?_
  refine lv_iload hx hb dMod_learn_63 (lv_at hl 0 rfl) ?_
  refine k_isub (v := 1) hx hb dMod_learn_65 (by decide) ?_
  refine k_fald (j := 1) hx hb hK hP 2 0 rfl rfl (by unfold vp_in; decide) rfl dMod_learn_66 ?_
  refine W.eq (g2 := F0 m 67 ls [.float (ww 1), .float (f_q kk), .float (ww 3), .int 3, .ref f8]) rfl ?_
  refine lv_fmul hx hb dMod_learn_67 (fk_n (fk_mul (q_k hc) (hw9 1 (by decide) (by decide)) (by decide) (by decide)) (by decide)) ?_
  refine lv_fsub hx hb dMod_learn_68 (fk_n (fk_sub (K := 134) (fk_mono (hw9 3 (by decide) (by decide)) (by decide)) (fk_mono (fk_mul (q_k hc) (hw9 1 (by decide) (by decide)) (by decide) (by decide)) (by decide)) (by decide)) (by decide)) ?_
  refine k_fast (j := 3) (f1 := vf_upd (vf_upd (vf_upd ww 1 (FP.fsub (ww 1) (FP.fmul (f_q kk) (ww 3)))) 2 (FP.fsub (ww 2) (FP.fmul (f_q kk) (ww 2)))) 3 (FP.fsub (ww 3) (FP.fmul (f_q kk) (ww 1)))) hx hb hK hP hD hS 1 0 rfl rfl (by unfold vp_in; decide) rfl rfl dMod_learn_69 (fun H locs hP hD hS => ?_)
  have hP : va_P D vwCl [(h0, .inr (6, [.ref f1, .ref f2, .ref f3, .ref f4, .ref f5, .ref f6, .ref f7, .ref f8, .ref f9, .ref f10, .ref f11, .ref n1, .ref n2, .ref n3, .ref n4, .int sm, .int ln, .int tt, .int cm, .int dm, .int si, .int mu, .int th, .int lin, .int oc, .int od])), (f8, .inl (cF, 5, .inr (.inr (.inl (vf_upd (vf_upd (vf_upd ww 1 (FP.fsub (ww 1) (FP.fmul (f_q kk) (ww 3)))) 2 (FP.fsub (ww 2) (FP.fmul (f_q kk) (ww 2)))) 3 (FP.fsub (ww 3) (FP.fmul (f_q kk) (ww 1)))))))), (f9, .inl (cF, 5, .inr (.inr (.inl (vf_upd (vf_upd (vf_upd wo 1 (ww 1)) 2 (ww 2)) 3 (ww 3))))))] H := hP
  have hD : va_D A [(h0, .inr (6, [.ref f1, .ref f2, .ref f3, .ref f4, .ref f5, .ref f6, .ref f7, .ref f8, .ref f9, .ref f10, .ref f11, .ref n1, .ref n2, .ref n3, .ref n4, .int sm, .int ln, .int tt, .int cm, .int dm, .int si, .int mu, .int th, .int lin, .int oc, .int od])), (f8, .inl (cF, 5, .inr (.inr (.inl (vf_upd (vf_upd (vf_upd ww 1 (FP.fsub (ww 1) (FP.fmul (f_q kk) (ww 3)))) 2 (FP.fsub (ww 2) (FP.fmul (f_q kk) (ww 2)))) 3 (FP.fsub (ww 3) (FP.fmul (f_q kk) (ww 1)))))))), (f9, .inl (cF, 5, .inr (.inr (.inl (vf_upd (vf_upd (vf_upd wo 1 (ww 1)) 2 (ww 2)) 3 (ww 3))))))] := hD
  refine lv_iinc (v := 4) (lv' := [(4, .int 4), (3, .float (f_q kk)), (0, .ref h0), (1, .int 4), (2, .int kk)]) hx hb dMod_learn_70 hl (k := 0) rfl (by decide) (by decide) rfl (fun ls hl => ?_)
  refine lv_goto (tgt := 38) hx hb dMod_learn_73 (by decide) ?_
  refine lv_iload hx hb dMod_learn_38 (lv_at hl 0 rfl) ?_
  refine lv_iload_n hx hb dMod_learn_40 rfl (lv_at hl 3 rfl) ?_
  refine lv_icmp_ge (tgt := 76) hx hb dMod_learn_41 (by decide) (fun _ => ?_) (fun c9 => absurd (by decide) c9)
  refine lv_aload_n hx hb dMod_learn_76 rfl (lv_at hl 2 rfl) ?_
  refine va_get (D := D) (ci := 6) (v := .ref f8) hx hb ht inMod hown hK hP 0 rfl rfl 7 (by decide) (ht _ kf_Mod_31) (fun _ h9 => h9) rfl dMod_learn_77 ?_
  refine lv_iload_n hx hb dMod_learn_80 rfl (lv_at hl 3 rfl) ?_
  refine lv_fload_n hx hb dMod_learn_81 rfl (lv_at hl 1 rfl) ?_
  refine k_fast (j := 4) (f1 := f_lev 4 ww (f_q kk)) hx hb hK hP hD hS 1 0 rfl rfl (by unfold vp_in; decide) rfl (ml_4 ww (f_q kk)) dMod_learn_82 (fun H locs hP hD hS => ?_)
  have hP : va_P D vwCl [(h0, .inr (6, [.ref f1, .ref f2, .ref f3, .ref f4, .ref f5, .ref f6, .ref f7, .ref f8, .ref f9, .ref f10, .ref f11, .ref n1, .ref n2, .ref n3, .ref n4, .int sm, .int ln, .int tt, .int cm, .int dm, .int si, .int mu, .int th, .int lin, .int oc, .int od])), (f8, .inl (cF, 5, .inr (.inr (.inl (f_lev 4 ww (f_q kk)))))), (f9, .inl (cF, 5, .inr (.inr (.inl (vf_upd (vf_upd (vf_upd wo 1 (ww 1)) 2 (ww 2)) 3 (ww 3))))))] H := hP
  have hD : va_D A [(h0, .inr (6, [.ref f1, .ref f2, .ref f3, .ref f4, .ref f5, .ref f6, .ref f7, .ref f8, .ref f9, .ref f10, .ref f11, .ref n1, .ref n2, .ref n3, .ref n4, .int sm, .int ln, .int tt, .int cm, .int dm, .int si, .int mu, .int th, .int lin, .int oc, .int od])), (f8, .inl (cF, 5, .inr (.inr (.inl (f_lev 4 ww (f_q kk)))))), (f9, .inl (cF, 5, .inr (.inr (.inl (vf_upd (vf_upd (vf_upd wo 1 (ww 1)) 2 (ww 2)) 3 (ww 3))))))] := hD
  have hP := hP.sub (ws' := [(h0, .inr (6, [.ref f1, .ref f2, .ref f3, .ref f4, .ref f5, .ref f6, .ref f7, .ref f8, .ref f9, .ref f10, .ref f11, .ref n1, .ref n2, .ref n3, .ref n4, .int sm, .int ln, .int tt, .int cm, .int dm, .int si, .int mu, .int th, .int lin, .int oc, .int od])), (f8, .inl (cF, 5, .inr (.inr (.inl (f_lev 4 ww (f_q kk)))))), (f9, .inl (cF, 5, .inr (.inr (.inl (vf_upd (vf_upd (vf_upd wo 1 (ww 1)) 2 (ww 2)) 3 (ww 3))))))]) [0, 1, 2] rfl
  have hD := hD.sub (ws' := [(h0, .inr (6, [.ref f1, .ref f2, .ref f3, .ref f4, .ref f5, .ref f6, .ref f7, .ref f8, .ref f9, .ref f10, .ref f11, .ref n1, .ref n2, .ref n3, .ref n4, .int sm, .int ln, .int tt, .int cm, .int dm, .int si, .int mu, .int th, .int lin, .int oc, .int od])), (f8, .inl (cF, 5, .inr (.inr (.inl (f_lev 4 ww (f_q kk)))))), (f9, .inl (cF, 5, .inr (.inr (.inl (vf_upd (vf_upd (vf_upd wo 1 (ww 1)) 2 (ww 2)) 3 (ww 3))))))]) [0, 1, 2] (by decide) rfl
  exact e_v () hx hb hr hlk hK hP hD hS rfl trivial dMod_learn_83

set_option maxHeartbeats 4000000 in
set_option maxRecDepth 100000 in
theorem c_Mod_clip (l : Launch) (D : va_G) (cF cI : ClassId) (sz : Nat) (v : UInt32) : Met l yMod_clip (.code yMod_clip cMod_clip 1 (some .float) :: TB) ({ frames := 0, cells := 0, slots := 0, locals := 0 }) (va_Pc [.float v] (cPre D cF cI [] sz)) (va_Qf (fun (r : UInt32) (_ : Unit) => r = m_clip v) (cB D cF cI (va_A [] sz) (fun _ : Unit => [])) (va_A [] sz)) 0 0 (va_A [] sz) := by
  refine c_ofW (own := RMod) (by decide) rfl (fun p e s m below meth c hsz hx hb hr hml hown ht hlk hin hP hK hD hmb => ?_)
  subst hsz
  generalize hAe : va_A [] s.heap.size = A at hD ⊢
  have hA : ∀ q : Nat, s.heap.size ≤ q → A q := fun q h => by rw [← hAe]; exact Or.inr h
  have hS : va_S A s.heap s.heap [] := va_S.rf
  have hl := lv_entry ([.float v]) (n := 1) (Nat.le_of_ble_eq_true rfl)
  rw [lg_entry_eq]
  generalize (lg_sl ([.float v]) ++ List.replicate (1 - (lg_sl ([.float v])).length) Slot.unset).toArray = ls at hl ⊢
  have hl : lv_has ls 1 [(0, .float v)] := hl
  refine lv_fload_n hx hb dMod_clip_0 rfl (lv_at hl 0 rfl) ?_
  refine lv_ldcf (v := 1191181824) hx hb hown (ht _ kk_Mod_77) dMod_clip_1 ?_
  refine lv_fcmp hx hb dMod_clip_3 ?_
  refine lv_if_le (tgt := 12) hx hb dMod_clip_4 (by decide) (fun c1 => ?_) (fun c1 => ?_)
  · refine lv_fload_n hx hb dMod_clip_12 rfl (lv_at hl 0 rfl) ?_
    refine lv_ldcf (v := 3338665984) hx hb hown (ht _ kk_Mod_78) dMod_clip_13 ?_
    refine lv_fcmp hx hb dMod_clip_15 ?_
    refine lv_if_ge (tgt := 24) hx hb dMod_clip_16 (by decide) (fun c2 => ?_) (fun c2 => ?_)
    · refine lv_fload_n hx hb dMod_clip_24 rfl (lv_at hl 0 rfl) ?_
      have hP := hP.sub (ws' := []) [] rfl
      have hD := hD.sub (ws' := []) [] (by decide) rfl
      exact e_f () hx hb hr hlk hK hP hD hS rfl (by unfold m_clip; rw [if_pos c1, if_pos c2]) dMod_clip_25
    · refine lv_ldcf (v := 3338665984) hx hb hown (ht _ kk_Mod_78) dMod_clip_19 ?_
      refine lv_goto (tgt := 25) hx hb dMod_clip_21 (by decide) ?_
      have hP := hP.sub (ws' := []) [] rfl
      have hD := hD.sub (ws' := []) [] (by decide) rfl
      exact e_f () hx hb hr hlk hK hP hD hS rfl (by unfold m_clip; rw [if_pos c1, if_neg c2]) dMod_clip_25
  · refine lv_ldcf (v := 1191181824) hx hb hown (ht _ kk_Mod_77) dMod_clip_7 ?_
    refine lv_goto (tgt := 25) hx hb dMod_clip_9 (by decide) ?_
    have hP := hP.sub (ws' := []) [] rfl
    have hD := hD.sub (ws' := []) [] (by decide) rfl
    exact e_f () hx hb hr hlk hK hP hD hS rfl (by unfold m_clip; rw [if_neg c1]) dMod_clip_25

set_option maxHeartbeats 4000000 in
set_option maxRecDepth 100000 in
theorem c_Mod_whole (l : Launch) (D : va_G) (cF cI : ClassId) (sz : Nat) (v : UInt32) (hn1 : vf_n32 (FP.fsub v 1056964608)) (hn2 : vf_n32 (FP.fadd v 1056964608)) : Met l yMod_whole (.code yMod_whole cMod_whole 1 (some .int) :: TB) ({ frames := 0, cells := 0, slots := 0, locals := 0 }) (va_Pc [.float v] (cPre D cF cI [] sz)) (va_Qi (fun (r : Int32) (_ : Unit) => r = m_whole v) (cB D cF cI (va_A [] sz) (fun _ : Unit => [])) (va_A [] sz)) 0 0 (va_A [] sz) := by
  refine c_ofW (own := RMod) (by decide) rfl (fun p e s m below meth c hsz hx hb hr hml hown ht hlk hin hP hK hD hmb => ?_)
  subst hsz
  generalize hAe : va_A [] s.heap.size = A at hD ⊢
  have hA : ∀ q : Nat, s.heap.size ≤ q → A q := fun q h => by rw [← hAe]; exact Or.inr h
  have hS : va_S A s.heap s.heap [] := va_S.rf
  have hl := lv_entry ([.float v]) (n := 1) (Nat.le_of_ble_eq_true rfl)
  rw [lg_entry_eq]
  generalize (lg_sl ([.float v]) ++ List.replicate (1 - (lg_sl ([.float v])).length) Slot.unset).toArray = ls at hl ⊢
  have hl : lv_has ls 1 [(0, .float v)] := hl
  refine lv_fload_n hx hb dMod_whole_0 rfl (lv_at hl 0 rfl) ?_
  refine lv_fconst0 hx hb dMod_whole_1 ?_
  refine lv_fcmp hx hb dMod_whole_2 ?_
  refine lv_if_ge (tgt := 14) hx hb dMod_whole_3 (by decide) (fun c1 => ?_) (fun c1 => ?_)
  · refine lv_fload_n hx hb dMod_whole_14 rfl (lv_at hl 0 rfl) ?_
    refine lv_ldcf (v := 1056964608) hx hb hown (ht _ kk_Mod_79) dMod_whole_15 ?_
    refine lv_fadd hx hb dMod_whole_17 hn2 ?_
    refine lv_f2i hx hb dMod_whole_18 ?_
    have hP := hP.sub (ws' := []) [] rfl
    have hD := hD.sub (ws' := []) [] (by decide) rfl
    exact e_i () hx hb hr hlk hK hP hD hS rfl (by unfold m_whole; rw [if_pos c1]) dMod_whole_19
  · refine lv_fload_n hx hb dMod_whole_6 rfl (lv_at hl 0 rfl) ?_
    refine lv_ldcf (v := 1056964608) hx hb hown (ht _ kk_Mod_79) dMod_whole_7 ?_
    refine lv_fsub hx hb dMod_whole_9 hn1 ?_
    refine lv_f2i hx hb dMod_whole_10 ?_
    refine lv_goto (tgt := 19) hx hb dMod_whole_11 (by decide) ?_
    have hP := hP.sub (ws' := []) [] rfl
    have hD := hD.sub (ws' := []) [] (by decide) rfl
    exact e_i () hx hb hr hlk hK hP hD hS rfl (by unfold m_whole; rw [if_neg c1]) dMod_whole_19

set_option maxHeartbeats 4000000 in
set_option maxRecDepth 100000 in
theorem c_Mod_before_1 (l : Launch) (D : va_G) (cF cI : ClassId) (sz : Nat) (h0 f1 f2 f3 f4 f5 f6 f7 f8 f9 f10 f11 n1 n2 n3 n4 : Nat) (sm : Int32) (ln : Int32) (tt : Int32) (cm : Int32) (dm : Int32) (si : Int32) (mu : Int32) (th : Int32) (lin : Int32) (oc : Int32) (od : Int32) (wk : Nat → UInt32) (mm : Nat → UInt32) (nn : Int32) (hb1 : ¬ nn < 0 → vp_in nn 16) (hb2 : nn < 0 → vp_in ((-1) - nn) 4) : Met l yMod_before (.code yMod_before cMod_before 3 (some .float) :: TB) ({ frames := 0, cells := 0, slots := 0, locals := 0 }) (va_Pc [.ref h0, .int nn, .int 1] (cPre D cF cI [(h0, .inr (6, [.ref f1, .ref f2, .ref f3, .ref f4, .ref f5, .ref f6, .ref f7, .ref f8, .ref f9, .ref f10, .ref f11, .ref n1, .ref n2, .ref n3, .ref n4, .int sm, .int ln, .int tt, .int cm, .int dm, .int si, .int mu, .int th, .int lin, .int oc, .int od])), (f3, .inl (cF, 16, .inr (.inr (.inl wk)))), (f6, .inl (cF, 4, .inr (.inr (.inl mm))))] sz)) (va_Qf (fun (r : UInt32) (_ : Unit) => r = m_bef wk mm nn) (cB D cF cI (va_A [(h0, .inr (6, [.ref f1, .ref f2, .ref f3, .ref f4, .ref f5, .ref f6, .ref f7, .ref f8, .ref f9, .ref f10, .ref f11, .ref n1, .ref n2, .ref n3, .ref n4, .int sm, .int ln, .int tt, .int cm, .int dm, .int si, .int mu, .int th, .int lin, .int oc, .int od])), (f3, .inl (cF, 16, .inr (.inr (.inl wk)))), (f6, .inl (cF, 4, .inr (.inr (.inl mm))))] sz) (fun _ : Unit => [(h0, .inr (6, [.ref f1, .ref f2, .ref f3, .ref f4, .ref f5, .ref f6, .ref f7, .ref f8, .ref f9, .ref f10, .ref f11, .ref n1, .ref n2, .ref n3, .ref n4, .int sm, .int ln, .int tt, .int cm, .int dm, .int si, .int mu, .int th, .int lin, .int oc, .int od])), (f3, .inl (cF, 16, .inr (.inr (.inl wk)))), (f6, .inl (cF, 4, .inr (.inr (.inl mm))))])) (va_A [(h0, .inr (6, [.ref f1, .ref f2, .ref f3, .ref f4, .ref f5, .ref f6, .ref f7, .ref f8, .ref f9, .ref f10, .ref f11, .ref n1, .ref n2, .ref n3, .ref n4, .int sm, .int ln, .int tt, .int cm, .int dm, .int si, .int mu, .int th, .int lin, .int oc, .int od])), (f3, .inl (cF, 16, .inr (.inr (.inl wk)))), (f6, .inl (cF, 4, .inr (.inr (.inl mm))))] sz)) 0 0 (va_A [(h0, .inr (6, [.ref f1, .ref f2, .ref f3, .ref f4, .ref f5, .ref f6, .ref f7, .ref f8, .ref f9, .ref f10, .ref f11, .ref n1, .ref n2, .ref n3, .ref n4, .int sm, .int ln, .int tt, .int cm, .int dm, .int si, .int mu, .int th, .int lin, .int oc, .int od])), (f3, .inl (cF, 16, .inr (.inr (.inl wk)))), (f6, .inl (cF, 4, .inr (.inr (.inl mm))))] sz) := by
  refine c_ofW (own := RMod) (by decide) rfl (fun p e s m below meth c hsz hx hb hr hml hown ht hlk hin hP hK hD hmb => ?_)
  subst hsz
  generalize hAe : va_A [(h0, .inr (6, [.ref f1, .ref f2, .ref f3, .ref f4, .ref f5, .ref f6, .ref f7, .ref f8, .ref f9, .ref f10, .ref f11, .ref n1, .ref n2, .ref n3, .ref n4, .int sm, .int ln, .int tt, .int cm, .int dm, .int si, .int mu, .int th, .int lin, .int oc, .int od])), (f3, .inl (cF, 16, .inr (.inr (.inl wk)))), (f6, .inl (cF, 4, .inr (.inr (.inl mm))))] s.heap.size = A at hD ⊢
  have hA : ∀ q : Nat, s.heap.size ≤ q → A q := fun q h => by rw [← hAe]; exact Or.inr h
  have hS : va_S A s.heap s.heap [] := va_S.rf
  have hl := lv_entry ([.ref h0, .int nn, .int 1]) (n := 3) (Nat.le_of_ble_eq_true rfl)
  rw [lg_entry_eq]
  generalize (lg_sl ([.ref h0, .int nn, .int 1]) ++ List.replicate (3 - (lg_sl ([.ref h0, .int nn, .int 1])).length) Slot.unset).toArray = ls at hl ⊢
  have hl : lv_has ls 3 [(0, .ref h0), (1, .int nn), (2, .int 1)] := hl
  refine lv_iload_n hx hb dMod_before_0 rfl (lv_at hl 1 rfl) ?_
  refine lv_if_lt (tgt := 13) hx hb dMod_before_1 (by decide) (fun c1 => ?_) (fun c1 => ?_)
  · refine lv_iload_n hx hb dMod_before_13 rfl (lv_at hl 2 rfl) ?_
    refine lv_if_eq (tgt := 28) hx hb dMod_before_14 (by decide) (fun c9 => absurd c9 (by decide)) (fun _ => ?_)
    refine lv_aload_n hx hb dMod_before_17 rfl (lv_at hl 0 rfl) ?_
    refine va_get (D := D) (ci := 6) (v := .ref f6) hx hb ht inMod hown hK hP 0 rfl rfl 5 (by decide) (ht _ kf_Mod_25) (fun _ h9 => h9) rfl dMod_before_18 ?_
    refine lv_iconst (v := (-1)) hx hb dMod_before_21 (by decide) ?_
    refine lv_iload_n hx hb dMod_before_22 rfl (lv_at hl 1 rfl) ?_
    refine k_isub (v := (-1) - nn) hx hb dMod_before_23 rfl ?_
    refine k_fald (j := ((-1) - nn).toNatClampNeg) hx hb hK hP 2 0 rfl rfl (hb2 c1) rfl dMod_before_24 ?_
    refine lv_goto (tgt := 36) hx hb dMod_before_25 (by decide) ?_
    have hP := hP.sub (ws' := [(h0, .inr (6, [.ref f1, .ref f2, .ref f3, .ref f4, .ref f5, .ref f6, .ref f7, .ref f8, .ref f9, .ref f10, .ref f11, .ref n1, .ref n2, .ref n3, .ref n4, .int sm, .int ln, .int tt, .int cm, .int dm, .int si, .int mu, .int th, .int lin, .int oc, .int od])), (f3, .inl (cF, 16, .inr (.inr (.inl wk)))), (f6, .inl (cF, 4, .inr (.inr (.inl mm))))]) [0, 1, 2] rfl
    have hD := hD.sub (ws' := [(h0, .inr (6, [.ref f1, .ref f2, .ref f3, .ref f4, .ref f5, .ref f6, .ref f7, .ref f8, .ref f9, .ref f10, .ref f11, .ref n1, .ref n2, .ref n3, .ref n4, .int sm, .int ln, .int tt, .int cm, .int dm, .int si, .int mu, .int th, .int lin, .int oc, .int od])), (f3, .inl (cF, 16, .inr (.inr (.inl wk)))), (f6, .inl (cF, 4, .inr (.inr (.inl mm))))]) [0, 1, 2] (by decide) rfl
    exact e_f () hx hb hr hlk hK hP hD hS rfl (by unfold m_bef; rw [if_pos c1]) dMod_before_36
  · refine lv_aload_n hx hb dMod_before_4 rfl (lv_at hl 0 rfl) ?_
    refine va_get (D := D) (ci := 6) (v := .ref f3) hx hb ht inMod hown hK hP 0 rfl rfl 2 (by decide) (ht _ kf_Mod_16) (fun _ h9 => h9) rfl dMod_before_5 ?_
    refine lv_iload_n hx hb dMod_before_8 rfl (lv_at hl 1 rfl) ?_
    refine k_fald (j := nn.toNatClampNeg) hx hb hK hP 1 0 rfl rfl (hb1 c1) rfl dMod_before_9 ?_
    refine lv_goto (tgt := 36) hx hb dMod_before_10 (by decide) ?_
    have hP := hP.sub (ws' := [(h0, .inr (6, [.ref f1, .ref f2, .ref f3, .ref f4, .ref f5, .ref f6, .ref f7, .ref f8, .ref f9, .ref f10, .ref f11, .ref n1, .ref n2, .ref n3, .ref n4, .int sm, .int ln, .int tt, .int cm, .int dm, .int si, .int mu, .int th, .int lin, .int oc, .int od])), (f3, .inl (cF, 16, .inr (.inr (.inl wk)))), (f6, .inl (cF, 4, .inr (.inr (.inl mm))))]) [0, 1, 2] rfl
    have hD := hD.sub (ws' := [(h0, .inr (6, [.ref f1, .ref f2, .ref f3, .ref f4, .ref f5, .ref f6, .ref f7, .ref f8, .ref f9, .ref f10, .ref f11, .ref n1, .ref n2, .ref n3, .ref n4, .int sm, .int ln, .int tt, .int cm, .int dm, .int si, .int mu, .int th, .int lin, .int oc, .int od])), (f3, .inl (cF, 16, .inr (.inr (.inl wk)))), (f6, .inl (cF, 4, .inr (.inr (.inl mm))))]) [0, 1, 2] (by decide) rfl
    exact e_f () hx hb hr hlk hK hP hD hS rfl (by unfold m_bef; rw [if_neg c1]) dMod_before_36

set_option maxHeartbeats 4000000 in
set_option maxRecDepth 100000 in
theorem c_Mod_foretold_1 (l : Launch) (D : va_G) (cF cI : ClassId) (sz : Nat) (h0 f1 f2 f3 f4 f5 f6 f7 f8 f9 f10 f11 n1 n2 n3 n4 : Nat) (sm : Int32) (ln : Int32) (tt : Int32) (cm : Int32) (dm : Int32) (si : Int32) (mu : Int32) (th : Int32) (lin : Int32) (oc : Int32) (od : Int32) (wk : Nat → UInt32) (mm : Nat → UInt32) (ww : Nat → UInt32) (i : Nat) (hi : i < 16) (hw : ∀ j, fk 136 (ww j)) (hk9 : ∀ j, fk 143 (wk j)) (hm9 : ∀ j, fk 143 (mm j)) : Met l yMod_foretold (.code yMod_foretold cMod_foretold 5 (some .float) :: TB) ({ frames := 1, cells := 0, slots := 0, locals := 22 }) (va_Pc [.ref h0, .int (nI i), .int 1] (cPre D cF cI [(h0, .inr (6, [.ref f1, .ref f2, .ref f3, .ref f4, .ref f5, .ref f6, .ref f7, .ref f8, .ref f9, .ref f10, .ref f11, .ref n1, .ref n2, .ref n3, .ref n4, .int sm, .int ln, .int tt, .int cm, .int dm, .int si, .int mu, .int th, .int lin, .int oc, .int od])), (f3, .inl (cF, 16, .inr (.inr (.inl wk)))), (f6, .inl (cF, 4, .inr (.inr (.inl mm)))), (f8, .inl (cF, 5, .inr (.inr (.inl ww))))] sz)) (va_Qf (fun (r : UInt32) (_ : Unit) => r = f_pred ww (m_his wk mm i)) (cB D cF cI (va_A [(h0, .inr (6, [.ref f1, .ref f2, .ref f3, .ref f4, .ref f5, .ref f6, .ref f7, .ref f8, .ref f9, .ref f10, .ref f11, .ref n1, .ref n2, .ref n3, .ref n4, .int sm, .int ln, .int tt, .int cm, .int dm, .int si, .int mu, .int th, .int lin, .int oc, .int od])), (f3, .inl (cF, 16, .inr (.inr (.inl wk)))), (f6, .inl (cF, 4, .inr (.inr (.inl mm)))), (f8, .inl (cF, 5, .inr (.inr (.inl ww))))] sz) (fun _ : Unit => [(h0, .inr (6, [.ref f1, .ref f2, .ref f3, .ref f4, .ref f5, .ref f6, .ref f7, .ref f8, .ref f9, .ref f10, .ref f11, .ref n1, .ref n2, .ref n3, .ref n4, .int sm, .int ln, .int tt, .int cm, .int dm, .int si, .int mu, .int th, .int lin, .int oc, .int od])), (f3, .inl (cF, 16, .inr (.inr (.inl wk)))), (f6, .inl (cF, 4, .inr (.inr (.inl mm)))), (f8, .inl (cF, 5, .inr (.inr (.inl ww))))])) (va_A [(h0, .inr (6, [.ref f1, .ref f2, .ref f3, .ref f4, .ref f5, .ref f6, .ref f7, .ref f8, .ref f9, .ref f10, .ref f11, .ref n1, .ref n2, .ref n3, .ref n4, .int sm, .int ln, .int tt, .int cm, .int dm, .int si, .int mu, .int th, .int lin, .int oc, .int od])), (f3, .inl (cF, 16, .inr (.inr (.inl wk)))), (f6, .inl (cF, 4, .inr (.inr (.inl mm)))), (f8, .inl (cF, 5, .inr (.inr (.inl ww))))] sz)) 0 0 (va_A [(h0, .inr (6, [.ref f1, .ref f2, .ref f3, .ref f4, .ref f5, .ref f6, .ref f7, .ref f8, .ref f9, .ref f10, .ref f11, .ref n1, .ref n2, .ref n3, .ref n4, .int sm, .int ln, .int tt, .int cm, .int dm, .int si, .int mu, .int th, .int lin, .int oc, .int od])), (f3, .inl (cF, 16, .inr (.inr (.inl wk)))), (f6, .inl (cF, 4, .inr (.inr (.inl mm)))), (f8, .inl (cF, 5, .inr (.inr (.inl ww))))] sz) := by
  refine c_ofW (own := RMod) (by decide) rfl (fun p e s m below meth c hsz hx hb hr hml hown ht hlk hin hP hK hD hmb => ?_)
  subst hsz
  generalize hAe : va_A [(h0, .inr (6, [.ref f1, .ref f2, .ref f3, .ref f4, .ref f5, .ref f6, .ref f7, .ref f8, .ref f9, .ref f10, .ref f11, .ref n1, .ref n2, .ref n3, .ref n4, .int sm, .int ln, .int tt, .int cm, .int dm, .int si, .int mu, .int th, .int lin, .int oc, .int od])), (f3, .inl (cF, 16, .inr (.inr (.inl wk)))), (f6, .inl (cF, 4, .inr (.inr (.inl mm)))), (f8, .inl (cF, 5, .inr (.inr (.inl ww))))] s.heap.size = A at hD ⊢
  have hA : ∀ q : Nat, s.heap.size ≤ q → A q := fun q h => by rw [← hAe]; exact Or.inr h
  have hS : va_S A s.heap s.heap [] := va_S.rf
  have hl := lv_entry ([.ref h0, .int (nI i), .int 1]) (n := 5) (Nat.le_of_ble_eq_true rfl)
  rw [lg_entry_eq]
  generalize (lg_sl ([.ref h0, .int (nI i), .int 1]) ++ List.replicate (5 - (lg_sl ([.ref h0, .int (nI i), .int 1])).length) Slot.unset).toArray = ls at hl ⊢
  have hl : lv_has ls 5 [(0, .ref h0), (1, .int (nI i)), (2, .int 1)] := hl
  refine lv_fconst0 hx hb dMod_foretold_0 ?_
  refine lv_fstore_n (lv' := [(3, .float FP.fconst0), (0, .ref h0), (1, .int (nI i)), (2, .int 1)]) hx hb dMod_foretold_1 rfl hl (by decide) rfl (fun ls hl => ?_)
  refine lv_iconst (v := 1) hx hb dMod_foretold_2 (by decide) ?_
  refine lv_istore (lv' := [(4, .int 1), (3, .float FP.fconst0), (0, .ref h0), (1, .int (nI i)), (2, .int 1)]) hx hb dMod_foretold_3 hl (by decide) rfl (fun ls hl => ?_)
  refine lv_iload hx hb dMod_foretold_5 (lv_at hl 0 rfl) ?_
  refine lv_iconst (v := 5) hx hb dMod_foretold_7 (by decide) ?_
  refine lv_icmp_ge (tgt := 37) hx hb dMod_foretold_8 (by decide) (fun c9 => absurd c9 (by decide)) (fun _ => ?_)
  refine lv_fload_n hx hb dMod_foretold_11 rfl (lv_at hl 1 rfl) ?_
  refine lv_aload_n hx hb dMod_foretold_12 rfl (lv_at hl 2 rfl) ?_
  refine va_get (D := D) (ci := 6) (v := .ref f8) hx hb ht inMod hown hK hP 0 rfl rfl 7 (by decide) (ht _ kf_Mod_31) (fun _ h9 => h9) rfl dMod_foretold_13 ?_
  refine lv_iload hx hb dMod_foretold_16 (lv_at hl 0 rfl) ?_
  refine k_fald (j := 1) hx hb hK hP 3 0 rfl rfl (by unfold vp_in; decide) rfl dMod_foretold_18 ?_
  refine lv_aload_n hx hb dMod_foretold_19 rfl (lv_at hl 2 rfl) ?_
  refine lv_iload_n hx hb dMod_foretold_20 rfl (lv_at hl 3 rfl) ?_
  refine lv_iload hx hb dMod_foretold_21 (lv_at hl 0 rfl) ?_
  refine k_isub (v := (nI i) - 1) hx hb dMod_foretold_23 rfl ?_
  refine lv_iload_n hx hb dMod_foretold_24 rfl (lv_at hl 4 rfl) ?_
  refine q_f (wc := [(h0, .inr (6, [.ref f1, .ref f2, .ref f3, .ref f4, .ref f5, .ref f6, .ref f7, .ref f8, .ref f9, .ref f10, .ref f11, .ref n1, .ref n2, .ref n3, .ref n4, .int sm, .int ln, .int tt, .int cm, .int dm, .int si, .int mu, .int th, .int lin, .int oc, .int od])), (f3, .inl (cF, 16, .inr (.inr (.inl wk)))), (f6, .inl (cF, 4, .inr (.inr (.inl mm))))]) (wr := [(f8, .inl (cF, 5, .inr (.inr (.inl ww))))]) [0, 1, 2] [3] hK hP hD hS hA rfl rfl (by decide) (by decide) (va_runV (As := [.int ((nI i) - 1), .int 1]) (rest := [.float (ww 1), .float FP.fconst0]) ⟨hx, hb, hml, hown, ht⟩ (c_Mod_before_1 l D cF cI s.heap.size h0 f1 f2 f3 f4 f5 f6 f7 f8 f9 f10 f11 n1 n2 n3 n4 sm ln tt cm dm si mu th lin oc od wk mm ((nI i) - 1) (bef_1 (j := 1) (by decide) hi (by decide)) (bef_2 (j := 1) (by decide) hi (by decide))) (cwV 2 ht (g_V km_Mod_80 ki_Mod_before kv_Mod_before kI_Mod kc_Mod_before) rfl rfl rfl (by decide +kernel) ⟨Nat.le_of_ble_eq_true rfl, Nat.le_of_ble_eq_true rfl⟩) (cPre_V (ci := 6) (q0 := 0) hK hmb (hP.sub (ws' := [(h0, .inr (6, [.ref f1, .ref f2, .ref f3, .ref f4, .ref f5, .ref f6, .ref f7, .ref f8, .ref f9, .ref f10, .ref f11, .ref n1, .ref n2, .ref n3, .ref n4, .int sm, .int ln, .int tt, .int cm, .int dm, .int si, .int mu, .int th, .int lin, .int oc, .int od])), (f3, .inl (cF, 16, .inr (.inr (.inl wk)))), (f6, .inl (cF, 4, .inr (.inr (.inl mm))))]) [0, 1, 2] rfl) (hD.sub (ws' := [(h0, .inr (6, [.ref f1, .ref f2, .ref f3, .ref f4, .ref f5, .ref f6, .ref f7, .ref f8, .ref f9, .ref f10, .ref f11, .ref n1, .ref n2, .ref n3, .ref n4, .int sm, .int ln, .int tt, .int cm, .int dm, .int si, .int mu, .int th, .int lin, .int oc, .int od])), (f3, .inl (cF, 16, .inr (.inr (.inl wk)))), (f6, .inl (cF, 4, .inr (.inr (.inl mm))))]) [0, 1, 2] (by decide) rfl) rfl rfl) rfl rfl hl.1 rfl (lv_room (Nat.le_of_ble_eq_true rfl)) dMod_foretold_25 ⟨Nat.le_of_ble_eq_true rfl, Nat.le_of_ble_eq_true rfl⟩) (fun r2 u3 H locs w4 hP hD hS => ?_)
  subst w4
  have hP : va_P D vwCl [(f8, .inl (cF, 5, .inr (.inr (.inl ww)))), (h0, .inr (6, [.ref f1, .ref f2, .ref f3, .ref f4, .ref f5, .ref f6, .ref f7, .ref f8, .ref f9, .ref f10, .ref f11, .ref n1, .ref n2, .ref n3, .ref n4, .int sm, .int ln, .int tt, .int cm, .int dm, .int si, .int mu, .int th, .int lin, .int oc, .int od])), (f3, .inl (cF, 16, .inr (.inr (.inl wk)))), (f6, .inl (cF, 4, .inr (.inr (.inl mm))))] H := hP
  have hD : va_D A [(f8, .inl (cF, 5, .inr (.inr (.inl ww)))), (h0, .inr (6, [.ref f1, .ref f2, .ref f3, .ref f4, .ref f5, .ref f6, .ref f7, .ref f8, .ref f9, .ref f10, .ref f11, .ref n1, .ref n2, .ref n3, .ref n4, .int sm, .int ln, .int tt, .int cm, .int dm, .int si, .int mu, .int th, .int lin, .int oc, .int od])), (f3, .inl (cF, 16, .inr (.inr (.inl wk)))), (f6, .inl (cF, 4, .inr (.inr (.inl mm))))] := hD
  refine lv_fmul hx hb dMod_foretold_28 (fk_n (fk_mul (hw _) (bef_k hk9 hm9 _) (by decide) (by decide)) (by decide)) ?_
  refine lv_fadd hx hb dMod_foretold_29 (fk_n (fk_add (K := 153) (fk_mono (show fk 1 FP.fconst0 by unfold fk; decide) (by decide)) (fk_mono (fk_mul (hw _) (bef_k hk9 hm9 _) (by decide) (by decide)) (by decide)) (by decide)) (by decide)) ?_
  refine lv_fstore_n (lv' := [(3, .float (FP.fadd FP.fconst0 (FP.fmul (ww 1) (m_bef wk mm ((nI i) - 1))))), (4, .int 1), (0, .ref h0), (1, .int (nI i)), (2, .int 1)]) hx hb dMod_foretold_30 rfl hl (by decide) rfl (fun ls hl => ?_)
  refine lv_iinc (v := 2) (lv' := [(4, .int 2), (3, .float (FP.fadd FP.fconst0 (FP.fmul (ww 1) (m_bef wk mm ((nI i) - 1))))), (0, .ref h0), (1, .int (nI i)), (2, .int 1)]) hx hb dMod_foretold_31 hl (k := 1) rfl (by decide) (by decide) rfl (fun ls hl => ?_)
  refine lv_goto (tgt := 5) hx hb dMod_foretold_34 (by decide) ?_
  refine lv_iload hx hb dMod_foretold_5 (lv_at hl 0 rfl) ?_
  refine lv_iconst (v := 5) hx hb dMod_foretold_7 (by decide) ?_
  refine lv_icmp_ge (tgt := 37) hx hb dMod_foretold_8 (by decide) (fun c9 => absurd c9 (by decide)) (fun _ => ?_)
  refine lv_fload_n hx hb dMod_foretold_11 rfl (lv_at hl 1 rfl) ?_
  refine lv_aload_n hx hb dMod_foretold_12 rfl (lv_at hl 2 rfl) ?_
  refine va_get (D := D) (ci := 6) (v := .ref f8) hx hb ht inMod hown hK hP 1 rfl rfl 7 (by decide) (ht _ kf_Mod_31) (fun _ h9 => h9) rfl dMod_foretold_13 ?_
  refine lv_iload hx hb dMod_foretold_16 (lv_at hl 0 rfl) ?_
  refine k_fald (j := 2) hx hb hK hP 0 0 rfl rfl (by unfold vp_in; decide) rfl dMod_foretold_18 ?_
  refine lv_aload_n hx hb dMod_foretold_19 rfl (lv_at hl 2 rfl) ?_
  refine lv_iload_n hx hb dMod_foretold_20 rfl (lv_at hl 3 rfl) ?_
  refine lv_iload hx hb dMod_foretold_21 (lv_at hl 0 rfl) ?_
  refine k_isub (v := (nI i) - 2) hx hb dMod_foretold_23 rfl ?_
  refine lv_iload_n hx hb dMod_foretold_24 rfl (lv_at hl 4 rfl) ?_
  refine q_f (wc := [(h0, .inr (6, [.ref f1, .ref f2, .ref f3, .ref f4, .ref f5, .ref f6, .ref f7, .ref f8, .ref f9, .ref f10, .ref f11, .ref n1, .ref n2, .ref n3, .ref n4, .int sm, .int ln, .int tt, .int cm, .int dm, .int si, .int mu, .int th, .int lin, .int oc, .int od])), (f3, .inl (cF, 16, .inr (.inr (.inl wk)))), (f6, .inl (cF, 4, .inr (.inr (.inl mm))))]) (wr := [(f8, .inl (cF, 5, .inr (.inr (.inl ww))))]) [1, 2, 3] [0] hK hP hD hS hA rfl rfl (by decide) (by decide) (va_runV (As := [.int ((nI i) - 2), .int 1]) (rest := [.float (ww 2), .float (FP.fadd FP.fconst0 (FP.fmul (ww 1) (m_bef wk mm ((nI i) - 1))))]) ⟨hx, hb, hml, hown, ht⟩ (c_Mod_before_1 l D cF cI H.size h0 f1 f2 f3 f4 f5 f6 f7 f8 f9 f10 f11 n1 n2 n3 n4 sm ln tt cm dm si mu th lin oc od wk mm ((nI i) - 2) (bef_1 (j := 2) (by decide) hi (by decide)) (bef_2 (j := 2) (by decide) hi (by decide))) (cwV 2 ht (g_V km_Mod_80 ki_Mod_before kv_Mod_before kI_Mod kc_Mod_before) rfl rfl rfl (by decide +kernel) ⟨Nat.le_of_ble_eq_true rfl, Nat.le_of_ble_eq_true rfl⟩) (cPre_V (ci := 6) (q0 := 0) hK hmb (hP.sub (ws' := [(h0, .inr (6, [.ref f1, .ref f2, .ref f3, .ref f4, .ref f5, .ref f6, .ref f7, .ref f8, .ref f9, .ref f10, .ref f11, .ref n1, .ref n2, .ref n3, .ref n4, .int sm, .int ln, .int tt, .int cm, .int dm, .int si, .int mu, .int th, .int lin, .int oc, .int od])), (f3, .inl (cF, 16, .inr (.inr (.inl wk)))), (f6, .inl (cF, 4, .inr (.inr (.inl mm))))]) [1, 2, 3] rfl) (hD.sub (ws' := [(h0, .inr (6, [.ref f1, .ref f2, .ref f3, .ref f4, .ref f5, .ref f6, .ref f7, .ref f8, .ref f9, .ref f10, .ref f11, .ref n1, .ref n2, .ref n3, .ref n4, .int sm, .int ln, .int tt, .int cm, .int dm, .int si, .int mu, .int th, .int lin, .int oc, .int od])), (f3, .inl (cF, 16, .inr (.inr (.inl wk)))), (f6, .inl (cF, 4, .inr (.inr (.inl mm))))]) [1, 2, 3] (by decide) rfl) rfl rfl) rfl rfl hl.1 rfl (lv_room (Nat.le_of_ble_eq_true rfl)) dMod_foretold_25 ⟨Nat.le_of_ble_eq_true rfl, Nat.le_of_ble_eq_true rfl⟩) (fun r6 u7 H locs w8 hP hD hS => ?_)
  subst w8
  have hP : va_P D vwCl [(f8, .inl (cF, 5, .inr (.inr (.inl ww)))), (h0, .inr (6, [.ref f1, .ref f2, .ref f3, .ref f4, .ref f5, .ref f6, .ref f7, .ref f8, .ref f9, .ref f10, .ref f11, .ref n1, .ref n2, .ref n3, .ref n4, .int sm, .int ln, .int tt, .int cm, .int dm, .int si, .int mu, .int th, .int lin, .int oc, .int od])), (f3, .inl (cF, 16, .inr (.inr (.inl wk)))), (f6, .inl (cF, 4, .inr (.inr (.inl mm))))] H := hP
  have hD : va_D A [(f8, .inl (cF, 5, .inr (.inr (.inl ww)))), (h0, .inr (6, [.ref f1, .ref f2, .ref f3, .ref f4, .ref f5, .ref f6, .ref f7, .ref f8, .ref f9, .ref f10, .ref f11, .ref n1, .ref n2, .ref n3, .ref n4, .int sm, .int ln, .int tt, .int cm, .int dm, .int si, .int mu, .int th, .int lin, .int oc, .int od])), (f3, .inl (cF, 16, .inr (.inr (.inl wk)))), (f6, .inl (cF, 4, .inr (.inr (.inl mm))))] := hD
  refine lv_fmul hx hb dMod_foretold_28 (fk_n (fk_mul (hw _) (bef_k hk9 hm9 _) (by decide) (by decide)) (by decide)) ?_
  refine lv_fadd hx hb dMod_foretold_29 (fk_n (fk_add (K := 155) (fk_mono (fk_add (K := 153) (fk_mono (show fk 1 FP.fconst0 by unfold fk; decide) (by decide)) (fk_mono (fk_mul (hw _) (bef_k hk9 hm9 _) (by decide) (by decide)) (by decide)) (by decide)) (by decide)) (fk_mono (fk_mul (hw _) (bef_k hk9 hm9 _) (by decide) (by decide)) (by decide)) (by decide)) (by decide)) ?_
  refine lv_fstore_n (lv' := [(3, .float (FP.fadd (FP.fadd FP.fconst0 (FP.fmul (ww 1) (m_bef wk mm ((nI i) - 1)))) (FP.fmul (ww 2) (m_bef wk mm ((nI i) - 2))))), (4, .int 2), (0, .ref h0), (1, .int (nI i)), (2, .int 1)]) hx hb dMod_foretold_30 rfl hl (by decide) rfl (fun ls hl => ?_)
  refine lv_iinc (v := 3) (lv' := [(4, .int 3), (3, .float (FP.fadd (FP.fadd FP.fconst0 (FP.fmul (ww 1) (m_bef wk mm ((nI i) - 1)))) (FP.fmul (ww 2) (m_bef wk mm ((nI i) - 2))))), (0, .ref h0), (1, .int (nI i)), (2, .int 1)]) hx hb dMod_foretold_31 hl (k := 1) rfl (by decide) (by decide) rfl (fun ls hl => ?_)
  refine lv_goto (tgt := 5) hx hb dMod_foretold_34 (by decide) ?_
  refine lv_iload hx hb dMod_foretold_5 (lv_at hl 0 rfl) ?_
  refine lv_iconst (v := 5) hx hb dMod_foretold_7 (by decide) ?_
  refine lv_icmp_ge (tgt := 37) hx hb dMod_foretold_8 (by decide) (fun c9 => absurd c9 (by decide)) (fun _ => ?_)
  refine lv_fload_n hx hb dMod_foretold_11 rfl (lv_at hl 1 rfl) ?_
  refine lv_aload_n hx hb dMod_foretold_12 rfl (lv_at hl 2 rfl) ?_
  refine va_get (D := D) (ci := 6) (v := .ref f8) hx hb ht inMod hown hK hP 1 rfl rfl 7 (by decide) (ht _ kf_Mod_31) (fun _ h9 => h9) rfl dMod_foretold_13 ?_
  refine lv_iload hx hb dMod_foretold_16 (lv_at hl 0 rfl) ?_
  refine k_fald (j := 3) hx hb hK hP 0 0 rfl rfl (by unfold vp_in; decide) rfl dMod_foretold_18 ?_
  refine lv_aload_n hx hb dMod_foretold_19 rfl (lv_at hl 2 rfl) ?_
  refine lv_iload_n hx hb dMod_foretold_20 rfl (lv_at hl 3 rfl) ?_
  refine lv_iload hx hb dMod_foretold_21 (lv_at hl 0 rfl) ?_
  refine k_isub (v := (nI i) - 3) hx hb dMod_foretold_23 rfl ?_
  refine lv_iload_n hx hb dMod_foretold_24 rfl (lv_at hl 4 rfl) ?_
  refine q_f (wc := [(h0, .inr (6, [.ref f1, .ref f2, .ref f3, .ref f4, .ref f5, .ref f6, .ref f7, .ref f8, .ref f9, .ref f10, .ref f11, .ref n1, .ref n2, .ref n3, .ref n4, .int sm, .int ln, .int tt, .int cm, .int dm, .int si, .int mu, .int th, .int lin, .int oc, .int od])), (f3, .inl (cF, 16, .inr (.inr (.inl wk)))), (f6, .inl (cF, 4, .inr (.inr (.inl mm))))]) (wr := [(f8, .inl (cF, 5, .inr (.inr (.inl ww))))]) [1, 2, 3] [0] hK hP hD hS hA rfl rfl (by decide) (by decide) (va_runV (As := [.int ((nI i) - 3), .int 1]) (rest := [.float (ww 3), .float (FP.fadd (FP.fadd FP.fconst0 (FP.fmul (ww 1) (m_bef wk mm ((nI i) - 1)))) (FP.fmul (ww 2) (m_bef wk mm ((nI i) - 2))))]) ⟨hx, hb, hml, hown, ht⟩ (c_Mod_before_1 l D cF cI H.size h0 f1 f2 f3 f4 f5 f6 f7 f8 f9 f10 f11 n1 n2 n3 n4 sm ln tt cm dm si mu th lin oc od wk mm ((nI i) - 3) (bef_1 (j := 3) (by decide) hi (by decide)) (bef_2 (j := 3) (by decide) hi (by decide))) (cwV 2 ht (g_V km_Mod_80 ki_Mod_before kv_Mod_before kI_Mod kc_Mod_before) rfl rfl rfl (by decide +kernel) ⟨Nat.le_of_ble_eq_true rfl, Nat.le_of_ble_eq_true rfl⟩) (cPre_V (ci := 6) (q0 := 0) hK hmb (hP.sub (ws' := [(h0, .inr (6, [.ref f1, .ref f2, .ref f3, .ref f4, .ref f5, .ref f6, .ref f7, .ref f8, .ref f9, .ref f10, .ref f11, .ref n1, .ref n2, .ref n3, .ref n4, .int sm, .int ln, .int tt, .int cm, .int dm, .int si, .int mu, .int th, .int lin, .int oc, .int od])), (f3, .inl (cF, 16, .inr (.inr (.inl wk)))), (f6, .inl (cF, 4, .inr (.inr (.inl mm))))]) [1, 2, 3] rfl) (hD.sub (ws' := [(h0, .inr (6, [.ref f1, .ref f2, .ref f3, .ref f4, .ref f5, .ref f6, .ref f7, .ref f8, .ref f9, .ref f10, .ref f11, .ref n1, .ref n2, .ref n3, .ref n4, .int sm, .int ln, .int tt, .int cm, .int dm, .int si, .int mu, .int th, .int lin, .int oc, .int od])), (f3, .inl (cF, 16, .inr (.inr (.inl wk)))), (f6, .inl (cF, 4, .inr (.inr (.inl mm))))]) [1, 2, 3] (by decide) rfl) rfl rfl) rfl rfl hl.1 rfl (lv_room (Nat.le_of_ble_eq_true rfl)) dMod_foretold_25 ⟨Nat.le_of_ble_eq_true rfl, Nat.le_of_ble_eq_true rfl⟩) (fun r10 u11 H locs w12 hP hD hS => ?_)
  subst w12
  have hP : va_P D vwCl [(f8, .inl (cF, 5, .inr (.inr (.inl ww)))), (h0, .inr (6, [.ref f1, .ref f2, .ref f3, .ref f4, .ref f5, .ref f6, .ref f7, .ref f8, .ref f9, .ref f10, .ref f11, .ref n1, .ref n2, .ref n3, .ref n4, .int sm, .int ln, .int tt, .int cm, .int dm, .int si, .int mu, .int th, .int lin, .int oc, .int od])), (f3, .inl (cF, 16, .inr (.inr (.inl wk)))), (f6, .inl (cF, 4, .inr (.inr (.inl mm))))] H := hP
  have hD : va_D A [(f8, .inl (cF, 5, .inr (.inr (.inl ww)))), (h0, .inr (6, [.ref f1, .ref f2, .ref f3, .ref f4, .ref f5, .ref f6, .ref f7, .ref f8, .ref f9, .ref f10, .ref f11, .ref n1, .ref n2, .ref n3, .ref n4, .int sm, .int ln, .int tt, .int cm, .int dm, .int si, .int mu, .int th, .int lin, .int oc, .int od])), (f3, .inl (cF, 16, .inr (.inr (.inl wk)))), (f6, .inl (cF, 4, .inr (.inr (.inl mm))))] := hD
  refine lv_fmul hx hb dMod_foretold_28 (fk_n (fk_mul (hw _) (bef_k hk9 hm9 _) (by decide) (by decide)) (by decide)) ?_
  refine lv_fadd hx hb dMod_foretold_29 (fk_n (fk_add (K := 157) (fk_mono (fk_add (K := 155) (fk_mono (fk_add (K := 153) (fk_mono (show fk 1 FP.fconst0 by unfold fk; decide) (by decide)) (fk_mono (fk_mul (hw _) (bef_k hk9 hm9 _) (by decide) (by decide)) (by decide)) (by decide)) (by decide)) (fk_mono (fk_mul (hw _) (bef_k hk9 hm9 _) (by decide) (by decide)) (by decide)) (by decide)) (by decide)) (fk_mono (fk_mul (hw _) (bef_k hk9 hm9 _) (by decide) (by decide)) (by decide)) (by decide)) (by decide)) ?_
  refine lv_fstore_n (lv' := [(3, .float (FP.fadd (FP.fadd (FP.fadd FP.fconst0 (FP.fmul (ww 1) (m_bef wk mm ((nI i) - 1)))) (FP.fmul (ww 2) (m_bef wk mm ((nI i) - 2)))) (FP.fmul (ww 3) (m_bef wk mm ((nI i) - 3))))), (4, .int 3), (0, .ref h0), (1, .int (nI i)), (2, .int 1)]) hx hb dMod_foretold_30 rfl hl (by decide) rfl (fun ls hl => ?_)
  refine lv_iinc (v := 4) (lv' := [(4, .int 4), (3, .float (FP.fadd (FP.fadd (FP.fadd FP.fconst0 (FP.fmul (ww 1) (m_bef wk mm ((nI i) - 1)))) (FP.fmul (ww 2) (m_bef wk mm ((nI i) - 2)))) (FP.fmul (ww 3) (m_bef wk mm ((nI i) - 3))))), (0, .ref h0), (1, .int (nI i)), (2, .int 1)]) hx hb dMod_foretold_31 hl (k := 1) rfl (by decide) (by decide) rfl (fun ls hl => ?_)
  refine lv_goto (tgt := 5) hx hb dMod_foretold_34 (by decide) ?_
  refine lv_iload hx hb dMod_foretold_5 (lv_at hl 0 rfl) ?_
  refine lv_iconst (v := 5) hx hb dMod_foretold_7 (by decide) ?_
  refine lv_icmp_ge (tgt := 37) hx hb dMod_foretold_8 (by decide) (fun c9 => absurd c9 (by decide)) (fun _ => ?_)
  refine lv_fload_n hx hb dMod_foretold_11 rfl (lv_at hl 1 rfl) ?_
  refine lv_aload_n hx hb dMod_foretold_12 rfl (lv_at hl 2 rfl) ?_
  refine va_get (D := D) (ci := 6) (v := .ref f8) hx hb ht inMod hown hK hP 1 rfl rfl 7 (by decide) (ht _ kf_Mod_31) (fun _ h9 => h9) rfl dMod_foretold_13 ?_
  refine lv_iload hx hb dMod_foretold_16 (lv_at hl 0 rfl) ?_
  refine k_fald (j := 4) hx hb hK hP 0 0 rfl rfl (by unfold vp_in; decide) rfl dMod_foretold_18 ?_
  refine lv_aload_n hx hb dMod_foretold_19 rfl (lv_at hl 2 rfl) ?_
  refine lv_iload_n hx hb dMod_foretold_20 rfl (lv_at hl 3 rfl) ?_
  refine lv_iload hx hb dMod_foretold_21 (lv_at hl 0 rfl) ?_
  refine k_isub (v := (nI i) - 4) hx hb dMod_foretold_23 rfl ?_
  refine lv_iload_n hx hb dMod_foretold_24 rfl (lv_at hl 4 rfl) ?_
  refine q_f (wc := [(h0, .inr (6, [.ref f1, .ref f2, .ref f3, .ref f4, .ref f5, .ref f6, .ref f7, .ref f8, .ref f9, .ref f10, .ref f11, .ref n1, .ref n2, .ref n3, .ref n4, .int sm, .int ln, .int tt, .int cm, .int dm, .int si, .int mu, .int th, .int lin, .int oc, .int od])), (f3, .inl (cF, 16, .inr (.inr (.inl wk)))), (f6, .inl (cF, 4, .inr (.inr (.inl mm))))]) (wr := [(f8, .inl (cF, 5, .inr (.inr (.inl ww))))]) [1, 2, 3] [0] hK hP hD hS hA rfl rfl (by decide) (by decide) (va_runV (As := [.int ((nI i) - 4), .int 1]) (rest := [.float (ww 4), .float (FP.fadd (FP.fadd (FP.fadd FP.fconst0 (FP.fmul (ww 1) (m_bef wk mm ((nI i) - 1)))) (FP.fmul (ww 2) (m_bef wk mm ((nI i) - 2)))) (FP.fmul (ww 3) (m_bef wk mm ((nI i) - 3))))]) ⟨hx, hb, hml, hown, ht⟩ (c_Mod_before_1 l D cF cI H.size h0 f1 f2 f3 f4 f5 f6 f7 f8 f9 f10 f11 n1 n2 n3 n4 sm ln tt cm dm si mu th lin oc od wk mm ((nI i) - 4) (bef_1 (j := 4) (by decide) hi (by decide)) (bef_2 (j := 4) (by decide) hi (by decide))) (cwV 2 ht (g_V km_Mod_80 ki_Mod_before kv_Mod_before kI_Mod kc_Mod_before) rfl rfl rfl (by decide +kernel) ⟨Nat.le_of_ble_eq_true rfl, Nat.le_of_ble_eq_true rfl⟩) (cPre_V (ci := 6) (q0 := 0) hK hmb (hP.sub (ws' := [(h0, .inr (6, [.ref f1, .ref f2, .ref f3, .ref f4, .ref f5, .ref f6, .ref f7, .ref f8, .ref f9, .ref f10, .ref f11, .ref n1, .ref n2, .ref n3, .ref n4, .int sm, .int ln, .int tt, .int cm, .int dm, .int si, .int mu, .int th, .int lin, .int oc, .int od])), (f3, .inl (cF, 16, .inr (.inr (.inl wk)))), (f6, .inl (cF, 4, .inr (.inr (.inl mm))))]) [1, 2, 3] rfl) (hD.sub (ws' := [(h0, .inr (6, [.ref f1, .ref f2, .ref f3, .ref f4, .ref f5, .ref f6, .ref f7, .ref f8, .ref f9, .ref f10, .ref f11, .ref n1, .ref n2, .ref n3, .ref n4, .int sm, .int ln, .int tt, .int cm, .int dm, .int si, .int mu, .int th, .int lin, .int oc, .int od])), (f3, .inl (cF, 16, .inr (.inr (.inl wk)))), (f6, .inl (cF, 4, .inr (.inr (.inl mm))))]) [1, 2, 3] (by decide) rfl) rfl rfl) rfl rfl hl.1 rfl (lv_room (Nat.le_of_ble_eq_true rfl)) dMod_foretold_25 ⟨Nat.le_of_ble_eq_true rfl, Nat.le_of_ble_eq_true rfl⟩) (fun r14 u15 H locs w16 hP hD hS => ?_)
  subst w16
  have hP : va_P D vwCl [(f8, .inl (cF, 5, .inr (.inr (.inl ww)))), (h0, .inr (6, [.ref f1, .ref f2, .ref f3, .ref f4, .ref f5, .ref f6, .ref f7, .ref f8, .ref f9, .ref f10, .ref f11, .ref n1, .ref n2, .ref n3, .ref n4, .int sm, .int ln, .int tt, .int cm, .int dm, .int si, .int mu, .int th, .int lin, .int oc, .int od])), (f3, .inl (cF, 16, .inr (.inr (.inl wk)))), (f6, .inl (cF, 4, .inr (.inr (.inl mm))))] H := hP
  have hD : va_D A [(f8, .inl (cF, 5, .inr (.inr (.inl ww)))), (h0, .inr (6, [.ref f1, .ref f2, .ref f3, .ref f4, .ref f5, .ref f6, .ref f7, .ref f8, .ref f9, .ref f10, .ref f11, .ref n1, .ref n2, .ref n3, .ref n4, .int sm, .int ln, .int tt, .int cm, .int dm, .int si, .int mu, .int th, .int lin, .int oc, .int od])), (f3, .inl (cF, 16, .inr (.inr (.inl wk)))), (f6, .inl (cF, 4, .inr (.inr (.inl mm))))] := hD
  refine lv_fmul hx hb dMod_foretold_28 (fk_n (fk_mul (hw _) (bef_k hk9 hm9 _) (by decide) (by decide)) (by decide)) ?_
  refine lv_fadd hx hb dMod_foretold_29 (fk_n (fk_add (K := 159) (fk_mono (fk_add (K := 157) (fk_mono (fk_add (K := 155) (fk_mono (fk_add (K := 153) (fk_mono (show fk 1 FP.fconst0 by unfold fk; decide) (by decide)) (fk_mono (fk_mul (hw _) (bef_k hk9 hm9 _) (by decide) (by decide)) (by decide)) (by decide)) (by decide)) (fk_mono (fk_mul (hw _) (bef_k hk9 hm9 _) (by decide) (by decide)) (by decide)) (by decide)) (by decide)) (fk_mono (fk_mul (hw _) (bef_k hk9 hm9 _) (by decide) (by decide)) (by decide)) (by decide)) (by decide)) (fk_mono (fk_mul (hw _) (bef_k hk9 hm9 _) (by decide) (by decide)) (by decide)) (by decide)) (by decide)) ?_
  refine lv_fstore_n (lv' := [(3, .float (FP.fadd (FP.fadd (FP.fadd (FP.fadd FP.fconst0 (FP.fmul (ww 1) (m_bef wk mm ((nI i) - 1)))) (FP.fmul (ww 2) (m_bef wk mm ((nI i) - 2)))) (FP.fmul (ww 3) (m_bef wk mm ((nI i) - 3)))) (FP.fmul (ww 4) (m_bef wk mm ((nI i) - 4))))), (4, .int 4), (0, .ref h0), (1, .int (nI i)), (2, .int 1)]) hx hb dMod_foretold_30 rfl hl (by decide) rfl (fun ls hl => ?_)
  refine lv_iinc (v := 5) (lv' := [(4, .int 5), (3, .float (FP.fadd (FP.fadd (FP.fadd (FP.fadd FP.fconst0 (FP.fmul (ww 1) (m_bef wk mm ((nI i) - 1)))) (FP.fmul (ww 2) (m_bef wk mm ((nI i) - 2)))) (FP.fmul (ww 3) (m_bef wk mm ((nI i) - 3)))) (FP.fmul (ww 4) (m_bef wk mm ((nI i) - 4))))), (0, .ref h0), (1, .int (nI i)), (2, .int 1)]) hx hb dMod_foretold_31 hl (k := 1) rfl (by decide) (by decide) rfl (fun ls hl => ?_)
  refine lv_goto (tgt := 5) hx hb dMod_foretold_34 (by decide) ?_
  refine lv_iload hx hb dMod_foretold_5 (lv_at hl 0 rfl) ?_
  refine lv_iconst (v := 5) hx hb dMod_foretold_7 (by decide) ?_
  refine lv_icmp_ge (tgt := 37) hx hb dMod_foretold_8 (by decide) (fun _ => ?_) (fun c9 => absurd (by decide) c9)
  refine lv_fload_n hx hb dMod_foretold_37 rfl (lv_at hl 1 rfl) ?_
  have hP := hP.sub (ws' := [(h0, .inr (6, [.ref f1, .ref f2, .ref f3, .ref f4, .ref f5, .ref f6, .ref f7, .ref f8, .ref f9, .ref f10, .ref f11, .ref n1, .ref n2, .ref n3, .ref n4, .int sm, .int ln, .int tt, .int cm, .int dm, .int si, .int mu, .int th, .int lin, .int oc, .int od])), (f3, .inl (cF, 16, .inr (.inr (.inl wk)))), (f6, .inl (cF, 4, .inr (.inr (.inl mm)))), (f8, .inl (cF, 5, .inr (.inr (.inl ww))))]) [1, 2, 3, 0] rfl
  have hD := hD.sub (ws' := [(h0, .inr (6, [.ref f1, .ref f2, .ref f3, .ref f4, .ref f5, .ref f6, .ref f7, .ref f8, .ref f9, .ref f10, .ref f11, .ref n1, .ref n2, .ref n3, .ref n4, .int sm, .int ln, .int tt, .int cm, .int dm, .int si, .int mu, .int th, .int lin, .int oc, .int od])), (f3, .inl (cF, 16, .inr (.inr (.inl wk)))), (f6, .inl (cF, 4, .inr (.inr (.inl mm)))), (f8, .inl (cF, 5, .inr (.inr (.inl ww))))]) [1, 2, 3, 0] (by decide) rfl
  exact e_f () hx hb hr hlk hK hP hD hS rfl rfl dMod_foretold_38

set_option maxHeartbeats 4000000 in
set_option maxRecDepth 100000 in
theorem c_Mod_before_0 (l : Launch) (D : va_G) (cF cI : ClassId) (sz : Nat) (h0 f1 f2 f3 f4 f5 f6 f7 f8 f9 f10 f11 n1 n2 n3 n4 : Nat) (sm : Int32) (ln : Int32) (tt : Int32) (cm : Int32) (dm : Int32) (si : Int32) (mu : Int32) (th : Int32) (lin : Int32) (oc : Int32) (od : Int32) (wk : Nat → UInt32) (mm2 : Nat → UInt32) (nn : Int32) (hb1 : ¬ nn < 0 → vp_in nn 16) (hb2 : nn < 0 → vp_in ((-1) - nn) 4) : Met l yMod_before (.code yMod_before cMod_before 3 (some .float) :: TB) ({ frames := 0, cells := 0, slots := 0, locals := 0 }) (va_Pc [.ref h0, .int nn, .int 0] (cPre D cF cI [(h0, .inr (6, [.ref f1, .ref f2, .ref f3, .ref f4, .ref f5, .ref f6, .ref f7, .ref f8, .ref f9, .ref f10, .ref f11, .ref n1, .ref n2, .ref n3, .ref n4, .int sm, .int ln, .int tt, .int cm, .int dm, .int si, .int mu, .int th, .int lin, .int oc, .int od])), (f3, .inl (cF, 16, .inr (.inr (.inl wk)))), (f7, .inl (cF, 4, .inr (.inr (.inl mm2))))] sz)) (va_Qf (fun (r : UInt32) (_ : Unit) => r = m_bef wk mm2 nn) (cB D cF cI (va_A [(h0, .inr (6, [.ref f1, .ref f2, .ref f3, .ref f4, .ref f5, .ref f6, .ref f7, .ref f8, .ref f9, .ref f10, .ref f11, .ref n1, .ref n2, .ref n3, .ref n4, .int sm, .int ln, .int tt, .int cm, .int dm, .int si, .int mu, .int th, .int lin, .int oc, .int od])), (f3, .inl (cF, 16, .inr (.inr (.inl wk)))), (f7, .inl (cF, 4, .inr (.inr (.inl mm2))))] sz) (fun _ : Unit => [(h0, .inr (6, [.ref f1, .ref f2, .ref f3, .ref f4, .ref f5, .ref f6, .ref f7, .ref f8, .ref f9, .ref f10, .ref f11, .ref n1, .ref n2, .ref n3, .ref n4, .int sm, .int ln, .int tt, .int cm, .int dm, .int si, .int mu, .int th, .int lin, .int oc, .int od])), (f3, .inl (cF, 16, .inr (.inr (.inl wk)))), (f7, .inl (cF, 4, .inr (.inr (.inl mm2))))])) (va_A [(h0, .inr (6, [.ref f1, .ref f2, .ref f3, .ref f4, .ref f5, .ref f6, .ref f7, .ref f8, .ref f9, .ref f10, .ref f11, .ref n1, .ref n2, .ref n3, .ref n4, .int sm, .int ln, .int tt, .int cm, .int dm, .int si, .int mu, .int th, .int lin, .int oc, .int od])), (f3, .inl (cF, 16, .inr (.inr (.inl wk)))), (f7, .inl (cF, 4, .inr (.inr (.inl mm2))))] sz)) 0 0 (va_A [(h0, .inr (6, [.ref f1, .ref f2, .ref f3, .ref f4, .ref f5, .ref f6, .ref f7, .ref f8, .ref f9, .ref f10, .ref f11, .ref n1, .ref n2, .ref n3, .ref n4, .int sm, .int ln, .int tt, .int cm, .int dm, .int si, .int mu, .int th, .int lin, .int oc, .int od])), (f3, .inl (cF, 16, .inr (.inr (.inl wk)))), (f7, .inl (cF, 4, .inr (.inr (.inl mm2))))] sz) := by
  refine c_ofW (own := RMod) (by decide) rfl (fun p e s m below meth c hsz hx hb hr hml hown ht hlk hin hP hK hD hmb => ?_)
  subst hsz
  generalize hAe : va_A [(h0, .inr (6, [.ref f1, .ref f2, .ref f3, .ref f4, .ref f5, .ref f6, .ref f7, .ref f8, .ref f9, .ref f10, .ref f11, .ref n1, .ref n2, .ref n3, .ref n4, .int sm, .int ln, .int tt, .int cm, .int dm, .int si, .int mu, .int th, .int lin, .int oc, .int od])), (f3, .inl (cF, 16, .inr (.inr (.inl wk)))), (f7, .inl (cF, 4, .inr (.inr (.inl mm2))))] s.heap.size = A at hD ⊢
  have hA : ∀ q : Nat, s.heap.size ≤ q → A q := fun q h => by rw [← hAe]; exact Or.inr h
  have hS : va_S A s.heap s.heap [] := va_S.rf
  have hl := lv_entry ([.ref h0, .int nn, .int 0]) (n := 3) (Nat.le_of_ble_eq_true rfl)
  rw [lg_entry_eq]
  generalize (lg_sl ([.ref h0, .int nn, .int 0]) ++ List.replicate (3 - (lg_sl ([.ref h0, .int nn, .int 0])).length) Slot.unset).toArray = ls at hl ⊢
  have hl : lv_has ls 3 [(0, .ref h0), (1, .int nn), (2, .int 0)] := hl
  refine lv_iload_n hx hb dMod_before_0 rfl (lv_at hl 1 rfl) ?_
  refine lv_if_lt (tgt := 13) hx hb dMod_before_1 (by decide) (fun c1 => ?_) (fun c1 => ?_)
  · refine lv_iload_n hx hb dMod_before_13 rfl (lv_at hl 2 rfl) ?_
    refine lv_if_eq (tgt := 28) hx hb dMod_before_14 (by decide) (fun _ => ?_) (fun c9 => absurd (by decide) c9)
    refine lv_aload_n hx hb dMod_before_28 rfl (lv_at hl 0 rfl) ?_
    refine va_get (D := D) (ci := 6) (v := .ref f7) hx hb ht inMod hown hK hP 0 rfl rfl 6 (by decide) (ht _ kf_Mod_28) (fun _ h9 => h9) rfl dMod_before_29 ?_
    refine lv_iconst (v := (-1)) hx hb dMod_before_32 (by decide) ?_
    refine lv_iload_n hx hb dMod_before_33 rfl (lv_at hl 1 rfl) ?_
    refine k_isub (v := (-1) - nn) hx hb dMod_before_34 rfl ?_
    refine k_fald (j := ((-1) - nn).toNatClampNeg) hx hb hK hP 2 0 rfl rfl (hb2 c1) rfl dMod_before_35 ?_
    have hP := hP.sub (ws' := [(h0, .inr (6, [.ref f1, .ref f2, .ref f3, .ref f4, .ref f5, .ref f6, .ref f7, .ref f8, .ref f9, .ref f10, .ref f11, .ref n1, .ref n2, .ref n3, .ref n4, .int sm, .int ln, .int tt, .int cm, .int dm, .int si, .int mu, .int th, .int lin, .int oc, .int od])), (f3, .inl (cF, 16, .inr (.inr (.inl wk)))), (f7, .inl (cF, 4, .inr (.inr (.inl mm2))))]) [0, 1, 2] rfl
    have hD := hD.sub (ws' := [(h0, .inr (6, [.ref f1, .ref f2, .ref f3, .ref f4, .ref f5, .ref f6, .ref f7, .ref f8, .ref f9, .ref f10, .ref f11, .ref n1, .ref n2, .ref n3, .ref n4, .int sm, .int ln, .int tt, .int cm, .int dm, .int si, .int mu, .int th, .int lin, .int oc, .int od])), (f3, .inl (cF, 16, .inr (.inr (.inl wk)))), (f7, .inl (cF, 4, .inr (.inr (.inl mm2))))]) [0, 1, 2] (by decide) rfl
    exact e_f () hx hb hr hlk hK hP hD hS rfl (by unfold m_bef; rw [if_pos c1]) dMod_before_36
  · refine lv_aload_n hx hb dMod_before_4 rfl (lv_at hl 0 rfl) ?_
    refine va_get (D := D) (ci := 6) (v := .ref f3) hx hb ht inMod hown hK hP 0 rfl rfl 2 (by decide) (ht _ kf_Mod_16) (fun _ h9 => h9) rfl dMod_before_5 ?_
    refine lv_iload_n hx hb dMod_before_8 rfl (lv_at hl 1 rfl) ?_
    refine k_fald (j := nn.toNatClampNeg) hx hb hK hP 1 0 rfl rfl (hb1 c1) rfl dMod_before_9 ?_
    refine lv_goto (tgt := 36) hx hb dMod_before_10 (by decide) ?_
    have hP := hP.sub (ws' := [(h0, .inr (6, [.ref f1, .ref f2, .ref f3, .ref f4, .ref f5, .ref f6, .ref f7, .ref f8, .ref f9, .ref f10, .ref f11, .ref n1, .ref n2, .ref n3, .ref n4, .int sm, .int ln, .int tt, .int cm, .int dm, .int si, .int mu, .int th, .int lin, .int oc, .int od])), (f3, .inl (cF, 16, .inr (.inr (.inl wk)))), (f7, .inl (cF, 4, .inr (.inr (.inl mm2))))]) [0, 1, 2] rfl
    have hD := hD.sub (ws' := [(h0, .inr (6, [.ref f1, .ref f2, .ref f3, .ref f4, .ref f5, .ref f6, .ref f7, .ref f8, .ref f9, .ref f10, .ref f11, .ref n1, .ref n2, .ref n3, .ref n4, .int sm, .int ln, .int tt, .int cm, .int dm, .int si, .int mu, .int th, .int lin, .int oc, .int od])), (f3, .inl (cF, 16, .inr (.inr (.inl wk)))), (f7, .inl (cF, 4, .inr (.inr (.inl mm2))))]) [0, 1, 2] (by decide) rfl
    exact e_f () hx hb hr hlk hK hP hD hS rfl (by unfold m_bef; rw [if_neg c1]) dMod_before_36

set_option maxHeartbeats 4000000 in
set_option maxRecDepth 100000 in
theorem c_Mod_foretold_0 (l : Launch) (D : va_G) (cF cI : ClassId) (sz : Nat) (h0 f1 f2 f3 f4 f5 f6 f7 f8 f9 f10 f11 n1 n2 n3 n4 : Nat) (sm : Int32) (ln : Int32) (tt : Int32) (cm : Int32) (dm : Int32) (si : Int32) (mu : Int32) (th : Int32) (lin : Int32) (oc : Int32) (od : Int32) (wk : Nat → UInt32) (mm2 : Nat → UInt32) (ww : Nat → UInt32) (i : Nat) (hi : i < 16) (hw : ∀ j, fk 136 (ww j)) (hk9 : ∀ j, fk 143 (wk j)) (hm9 : ∀ j, fk 143 (mm2 j)) : Met l yMod_foretold (.code yMod_foretold cMod_foretold 5 (some .float) :: TB) ({ frames := 1, cells := 0, slots := 0, locals := 22 }) (va_Pc [.ref h0, .int (nI i), .int 0] (cPre D cF cI [(h0, .inr (6, [.ref f1, .ref f2, .ref f3, .ref f4, .ref f5, .ref f6, .ref f7, .ref f8, .ref f9, .ref f10, .ref f11, .ref n1, .ref n2, .ref n3, .ref n4, .int sm, .int ln, .int tt, .int cm, .int dm, .int si, .int mu, .int th, .int lin, .int oc, .int od])), (f3, .inl (cF, 16, .inr (.inr (.inl wk)))), (f7, .inl (cF, 4, .inr (.inr (.inl mm2)))), (f8, .inl (cF, 5, .inr (.inr (.inl ww))))] sz)) (va_Qf (fun (r : UInt32) (_ : Unit) => r = f_pred ww (m_his wk mm2 i)) (cB D cF cI (va_A [(h0, .inr (6, [.ref f1, .ref f2, .ref f3, .ref f4, .ref f5, .ref f6, .ref f7, .ref f8, .ref f9, .ref f10, .ref f11, .ref n1, .ref n2, .ref n3, .ref n4, .int sm, .int ln, .int tt, .int cm, .int dm, .int si, .int mu, .int th, .int lin, .int oc, .int od])), (f3, .inl (cF, 16, .inr (.inr (.inl wk)))), (f7, .inl (cF, 4, .inr (.inr (.inl mm2)))), (f8, .inl (cF, 5, .inr (.inr (.inl ww))))] sz) (fun _ : Unit => [(h0, .inr (6, [.ref f1, .ref f2, .ref f3, .ref f4, .ref f5, .ref f6, .ref f7, .ref f8, .ref f9, .ref f10, .ref f11, .ref n1, .ref n2, .ref n3, .ref n4, .int sm, .int ln, .int tt, .int cm, .int dm, .int si, .int mu, .int th, .int lin, .int oc, .int od])), (f3, .inl (cF, 16, .inr (.inr (.inl wk)))), (f7, .inl (cF, 4, .inr (.inr (.inl mm2)))), (f8, .inl (cF, 5, .inr (.inr (.inl ww))))])) (va_A [(h0, .inr (6, [.ref f1, .ref f2, .ref f3, .ref f4, .ref f5, .ref f6, .ref f7, .ref f8, .ref f9, .ref f10, .ref f11, .ref n1, .ref n2, .ref n3, .ref n4, .int sm, .int ln, .int tt, .int cm, .int dm, .int si, .int mu, .int th, .int lin, .int oc, .int od])), (f3, .inl (cF, 16, .inr (.inr (.inl wk)))), (f7, .inl (cF, 4, .inr (.inr (.inl mm2)))), (f8, .inl (cF, 5, .inr (.inr (.inl ww))))] sz)) 0 0 (va_A [(h0, .inr (6, [.ref f1, .ref f2, .ref f3, .ref f4, .ref f5, .ref f6, .ref f7, .ref f8, .ref f9, .ref f10, .ref f11, .ref n1, .ref n2, .ref n3, .ref n4, .int sm, .int ln, .int tt, .int cm, .int dm, .int si, .int mu, .int th, .int lin, .int oc, .int od])), (f3, .inl (cF, 16, .inr (.inr (.inl wk)))), (f7, .inl (cF, 4, .inr (.inr (.inl mm2)))), (f8, .inl (cF, 5, .inr (.inr (.inl ww))))] sz) := by
  refine c_ofW (own := RMod) (by decide) rfl (fun p e s m below meth c hsz hx hb hr hml hown ht hlk hin hP hK hD hmb => ?_)
  subst hsz
  generalize hAe : va_A [(h0, .inr (6, [.ref f1, .ref f2, .ref f3, .ref f4, .ref f5, .ref f6, .ref f7, .ref f8, .ref f9, .ref f10, .ref f11, .ref n1, .ref n2, .ref n3, .ref n4, .int sm, .int ln, .int tt, .int cm, .int dm, .int si, .int mu, .int th, .int lin, .int oc, .int od])), (f3, .inl (cF, 16, .inr (.inr (.inl wk)))), (f7, .inl (cF, 4, .inr (.inr (.inl mm2)))), (f8, .inl (cF, 5, .inr (.inr (.inl ww))))] s.heap.size = A at hD ⊢
  have hA : ∀ q : Nat, s.heap.size ≤ q → A q := fun q h => by rw [← hAe]; exact Or.inr h
  have hS : va_S A s.heap s.heap [] := va_S.rf
  have hl := lv_entry ([.ref h0, .int (nI i), .int 0]) (n := 5) (Nat.le_of_ble_eq_true rfl)
  rw [lg_entry_eq]
  generalize (lg_sl ([.ref h0, .int (nI i), .int 0]) ++ List.replicate (5 - (lg_sl ([.ref h0, .int (nI i), .int 0])).length) Slot.unset).toArray = ls at hl ⊢
  have hl : lv_has ls 5 [(0, .ref h0), (1, .int (nI i)), (2, .int 0)] := hl
  refine lv_fconst0 hx hb dMod_foretold_0 ?_
  refine lv_fstore_n (lv' := [(3, .float FP.fconst0), (0, .ref h0), (1, .int (nI i)), (2, .int 0)]) hx hb dMod_foretold_1 rfl hl (by decide) rfl (fun ls hl => ?_)
  refine lv_iconst (v := 1) hx hb dMod_foretold_2 (by decide) ?_
  refine lv_istore (lv' := [(4, .int 1), (3, .float FP.fconst0), (0, .ref h0), (1, .int (nI i)), (2, .int 0)]) hx hb dMod_foretold_3 hl (by decide) rfl (fun ls hl => ?_)
  refine lv_iload hx hb dMod_foretold_5 (lv_at hl 0 rfl) ?_
  refine lv_iconst (v := 5) hx hb dMod_foretold_7 (by decide) ?_
  refine lv_icmp_ge (tgt := 37) hx hb dMod_foretold_8 (by decide) (fun c9 => absurd c9 (by decide)) (fun _ => ?_)
  refine lv_fload_n hx hb dMod_foretold_11 rfl (lv_at hl 1 rfl) ?_
  refine lv_aload_n hx hb dMod_foretold_12 rfl (lv_at hl 2 rfl) ?_
  refine va_get (D := D) (ci := 6) (v := .ref f8) hx hb ht inMod hown hK hP 0 rfl rfl 7 (by decide) (ht _ kf_Mod_31) (fun _ h9 => h9) rfl dMod_foretold_13 ?_
  refine lv_iload hx hb dMod_foretold_16 (lv_at hl 0 rfl) ?_
  refine k_fald (j := 1) hx hb hK hP 3 0 rfl rfl (by unfold vp_in; decide) rfl dMod_foretold_18 ?_
  refine lv_aload_n hx hb dMod_foretold_19 rfl (lv_at hl 2 rfl) ?_
  refine lv_iload_n hx hb dMod_foretold_20 rfl (lv_at hl 3 rfl) ?_
  refine lv_iload hx hb dMod_foretold_21 (lv_at hl 0 rfl) ?_
  refine k_isub (v := (nI i) - 1) hx hb dMod_foretold_23 rfl ?_
  refine lv_iload_n hx hb dMod_foretold_24 rfl (lv_at hl 4 rfl) ?_
  refine q_f (wc := [(h0, .inr (6, [.ref f1, .ref f2, .ref f3, .ref f4, .ref f5, .ref f6, .ref f7, .ref f8, .ref f9, .ref f10, .ref f11, .ref n1, .ref n2, .ref n3, .ref n4, .int sm, .int ln, .int tt, .int cm, .int dm, .int si, .int mu, .int th, .int lin, .int oc, .int od])), (f3, .inl (cF, 16, .inr (.inr (.inl wk)))), (f7, .inl (cF, 4, .inr (.inr (.inl mm2))))]) (wr := [(f8, .inl (cF, 5, .inr (.inr (.inl ww))))]) [0, 1, 2] [3] hK hP hD hS hA rfl rfl (by decide) (by decide) (va_runV (As := [.int ((nI i) - 1), .int 0]) (rest := [.float (ww 1), .float FP.fconst0]) ⟨hx, hb, hml, hown, ht⟩ (c_Mod_before_0 l D cF cI s.heap.size h0 f1 f2 f3 f4 f5 f6 f7 f8 f9 f10 f11 n1 n2 n3 n4 sm ln tt cm dm si mu th lin oc od wk mm2 ((nI i) - 1) (bef_1 (j := 1) (by decide) hi (by decide)) (bef_2 (j := 1) (by decide) hi (by decide))) (cwV 2 ht (g_V km_Mod_80 ki_Mod_before kv_Mod_before kI_Mod kc_Mod_before) rfl rfl rfl (by decide +kernel) ⟨Nat.le_of_ble_eq_true rfl, Nat.le_of_ble_eq_true rfl⟩) (cPre_V (ci := 6) (q0 := 0) hK hmb (hP.sub (ws' := [(h0, .inr (6, [.ref f1, .ref f2, .ref f3, .ref f4, .ref f5, .ref f6, .ref f7, .ref f8, .ref f9, .ref f10, .ref f11, .ref n1, .ref n2, .ref n3, .ref n4, .int sm, .int ln, .int tt, .int cm, .int dm, .int si, .int mu, .int th, .int lin, .int oc, .int od])), (f3, .inl (cF, 16, .inr (.inr (.inl wk)))), (f7, .inl (cF, 4, .inr (.inr (.inl mm2))))]) [0, 1, 2] rfl) (hD.sub (ws' := [(h0, .inr (6, [.ref f1, .ref f2, .ref f3, .ref f4, .ref f5, .ref f6, .ref f7, .ref f8, .ref f9, .ref f10, .ref f11, .ref n1, .ref n2, .ref n3, .ref n4, .int sm, .int ln, .int tt, .int cm, .int dm, .int si, .int mu, .int th, .int lin, .int oc, .int od])), (f3, .inl (cF, 16, .inr (.inr (.inl wk)))), (f7, .inl (cF, 4, .inr (.inr (.inl mm2))))]) [0, 1, 2] (by decide) rfl) rfl rfl) rfl rfl hl.1 rfl (lv_room (Nat.le_of_ble_eq_true rfl)) dMod_foretold_25 ⟨Nat.le_of_ble_eq_true rfl, Nat.le_of_ble_eq_true rfl⟩) (fun r2 u3 H locs w4 hP hD hS => ?_)
  subst w4
  have hP : va_P D vwCl [(f8, .inl (cF, 5, .inr (.inr (.inl ww)))), (h0, .inr (6, [.ref f1, .ref f2, .ref f3, .ref f4, .ref f5, .ref f6, .ref f7, .ref f8, .ref f9, .ref f10, .ref f11, .ref n1, .ref n2, .ref n3, .ref n4, .int sm, .int ln, .int tt, .int cm, .int dm, .int si, .int mu, .int th, .int lin, .int oc, .int od])), (f3, .inl (cF, 16, .inr (.inr (.inl wk)))), (f7, .inl (cF, 4, .inr (.inr (.inl mm2))))] H := hP
  have hD : va_D A [(f8, .inl (cF, 5, .inr (.inr (.inl ww)))), (h0, .inr (6, [.ref f1, .ref f2, .ref f3, .ref f4, .ref f5, .ref f6, .ref f7, .ref f8, .ref f9, .ref f10, .ref f11, .ref n1, .ref n2, .ref n3, .ref n4, .int sm, .int ln, .int tt, .int cm, .int dm, .int si, .int mu, .int th, .int lin, .int oc, .int od])), (f3, .inl (cF, 16, .inr (.inr (.inl wk)))), (f7, .inl (cF, 4, .inr (.inr (.inl mm2))))] := hD
  refine lv_fmul hx hb dMod_foretold_28 (fk_n (fk_mul (hw _) (bef_k hk9 hm9 _) (by decide) (by decide)) (by decide)) ?_
  refine lv_fadd hx hb dMod_foretold_29 (fk_n (fk_add (K := 153) (fk_mono (show fk 1 FP.fconst0 by unfold fk; decide) (by decide)) (fk_mono (fk_mul (hw _) (bef_k hk9 hm9 _) (by decide) (by decide)) (by decide)) (by decide)) (by decide)) ?_
  refine lv_fstore_n (lv' := [(3, .float (FP.fadd FP.fconst0 (FP.fmul (ww 1) (m_bef wk mm2 ((nI i) - 1))))), (4, .int 1), (0, .ref h0), (1, .int (nI i)), (2, .int 0)]) hx hb dMod_foretold_30 rfl hl (by decide) rfl (fun ls hl => ?_)
  refine lv_iinc (v := 2) (lv' := [(4, .int 2), (3, .float (FP.fadd FP.fconst0 (FP.fmul (ww 1) (m_bef wk mm2 ((nI i) - 1))))), (0, .ref h0), (1, .int (nI i)), (2, .int 0)]) hx hb dMod_foretold_31 hl (k := 1) rfl (by decide) (by decide) rfl (fun ls hl => ?_)
  refine lv_goto (tgt := 5) hx hb dMod_foretold_34 (by decide) ?_
  refine lv_iload hx hb dMod_foretold_5 (lv_at hl 0 rfl) ?_
  refine lv_iconst (v := 5) hx hb dMod_foretold_7 (by decide) ?_
  refine lv_icmp_ge (tgt := 37) hx hb dMod_foretold_8 (by decide) (fun c9 => absurd c9 (by decide)) (fun _ => ?_)
  refine lv_fload_n hx hb dMod_foretold_11 rfl (lv_at hl 1 rfl) ?_
  refine lv_aload_n hx hb dMod_foretold_12 rfl (lv_at hl 2 rfl) ?_
  refine va_get (D := D) (ci := 6) (v := .ref f8) hx hb ht inMod hown hK hP 1 rfl rfl 7 (by decide) (ht _ kf_Mod_31) (fun _ h9 => h9) rfl dMod_foretold_13 ?_
  refine lv_iload hx hb dMod_foretold_16 (lv_at hl 0 rfl) ?_
  refine k_fald (j := 2) hx hb hK hP 0 0 rfl rfl (by unfold vp_in; decide) rfl dMod_foretold_18 ?_
  refine lv_aload_n hx hb dMod_foretold_19 rfl (lv_at hl 2 rfl) ?_
  refine lv_iload_n hx hb dMod_foretold_20 rfl (lv_at hl 3 rfl) ?_
  refine lv_iload hx hb dMod_foretold_21 (lv_at hl 0 rfl) ?_
  refine k_isub (v := (nI i) - 2) hx hb dMod_foretold_23 rfl ?_
  refine lv_iload_n hx hb dMod_foretold_24 rfl (lv_at hl 4 rfl) ?_
  refine q_f (wc := [(h0, .inr (6, [.ref f1, .ref f2, .ref f3, .ref f4, .ref f5, .ref f6, .ref f7, .ref f8, .ref f9, .ref f10, .ref f11, .ref n1, .ref n2, .ref n3, .ref n4, .int sm, .int ln, .int tt, .int cm, .int dm, .int si, .int mu, .int th, .int lin, .int oc, .int od])), (f3, .inl (cF, 16, .inr (.inr (.inl wk)))), (f7, .inl (cF, 4, .inr (.inr (.inl mm2))))]) (wr := [(f8, .inl (cF, 5, .inr (.inr (.inl ww))))]) [1, 2, 3] [0] hK hP hD hS hA rfl rfl (by decide) (by decide) (va_runV (As := [.int ((nI i) - 2), .int 0]) (rest := [.float (ww 2), .float (FP.fadd FP.fconst0 (FP.fmul (ww 1) (m_bef wk mm2 ((nI i) - 1))))]) ⟨hx, hb, hml, hown, ht⟩ (c_Mod_before_0 l D cF cI H.size h0 f1 f2 f3 f4 f5 f6 f7 f8 f9 f10 f11 n1 n2 n3 n4 sm ln tt cm dm si mu th lin oc od wk mm2 ((nI i) - 2) (bef_1 (j := 2) (by decide) hi (by decide)) (bef_2 (j := 2) (by decide) hi (by decide))) (cwV 2 ht (g_V km_Mod_80 ki_Mod_before kv_Mod_before kI_Mod kc_Mod_before) rfl rfl rfl (by decide +kernel) ⟨Nat.le_of_ble_eq_true rfl, Nat.le_of_ble_eq_true rfl⟩) (cPre_V (ci := 6) (q0 := 0) hK hmb (hP.sub (ws' := [(h0, .inr (6, [.ref f1, .ref f2, .ref f3, .ref f4, .ref f5, .ref f6, .ref f7, .ref f8, .ref f9, .ref f10, .ref f11, .ref n1, .ref n2, .ref n3, .ref n4, .int sm, .int ln, .int tt, .int cm, .int dm, .int si, .int mu, .int th, .int lin, .int oc, .int od])), (f3, .inl (cF, 16, .inr (.inr (.inl wk)))), (f7, .inl (cF, 4, .inr (.inr (.inl mm2))))]) [1, 2, 3] rfl) (hD.sub (ws' := [(h0, .inr (6, [.ref f1, .ref f2, .ref f3, .ref f4, .ref f5, .ref f6, .ref f7, .ref f8, .ref f9, .ref f10, .ref f11, .ref n1, .ref n2, .ref n3, .ref n4, .int sm, .int ln, .int tt, .int cm, .int dm, .int si, .int mu, .int th, .int lin, .int oc, .int od])), (f3, .inl (cF, 16, .inr (.inr (.inl wk)))), (f7, .inl (cF, 4, .inr (.inr (.inl mm2))))]) [1, 2, 3] (by decide) rfl) rfl rfl) rfl rfl hl.1 rfl (lv_room (Nat.le_of_ble_eq_true rfl)) dMod_foretold_25 ⟨Nat.le_of_ble_eq_true rfl, Nat.le_of_ble_eq_true rfl⟩) (fun r6 u7 H locs w8 hP hD hS => ?_)
  subst w8
  have hP : va_P D vwCl [(f8, .inl (cF, 5, .inr (.inr (.inl ww)))), (h0, .inr (6, [.ref f1, .ref f2, .ref f3, .ref f4, .ref f5, .ref f6, .ref f7, .ref f8, .ref f9, .ref f10, .ref f11, .ref n1, .ref n2, .ref n3, .ref n4, .int sm, .int ln, .int tt, .int cm, .int dm, .int si, .int mu, .int th, .int lin, .int oc, .int od])), (f3, .inl (cF, 16, .inr (.inr (.inl wk)))), (f7, .inl (cF, 4, .inr (.inr (.inl mm2))))] H := hP
  have hD : va_D A [(f8, .inl (cF, 5, .inr (.inr (.inl ww)))), (h0, .inr (6, [.ref f1, .ref f2, .ref f3, .ref f4, .ref f5, .ref f6, .ref f7, .ref f8, .ref f9, .ref f10, .ref f11, .ref n1, .ref n2, .ref n3, .ref n4, .int sm, .int ln, .int tt, .int cm, .int dm, .int si, .int mu, .int th, .int lin, .int oc, .int od])), (f3, .inl (cF, 16, .inr (.inr (.inl wk)))), (f7, .inl (cF, 4, .inr (.inr (.inl mm2))))] := hD
  refine lv_fmul hx hb dMod_foretold_28 (fk_n (fk_mul (hw _) (bef_k hk9 hm9 _) (by decide) (by decide)) (by decide)) ?_
  refine lv_fadd hx hb dMod_foretold_29 (fk_n (fk_add (K := 155) (fk_mono (fk_add (K := 153) (fk_mono (show fk 1 FP.fconst0 by unfold fk; decide) (by decide)) (fk_mono (fk_mul (hw _) (bef_k hk9 hm9 _) (by decide) (by decide)) (by decide)) (by decide)) (by decide)) (fk_mono (fk_mul (hw _) (bef_k hk9 hm9 _) (by decide) (by decide)) (by decide)) (by decide)) (by decide)) ?_
  refine lv_fstore_n (lv' := [(3, .float (FP.fadd (FP.fadd FP.fconst0 (FP.fmul (ww 1) (m_bef wk mm2 ((nI i) - 1)))) (FP.fmul (ww 2) (m_bef wk mm2 ((nI i) - 2))))), (4, .int 2), (0, .ref h0), (1, .int (nI i)), (2, .int 0)]) hx hb dMod_foretold_30 rfl hl (by decide) rfl (fun ls hl => ?_)
  refine lv_iinc (v := 3) (lv' := [(4, .int 3), (3, .float (FP.fadd (FP.fadd FP.fconst0 (FP.fmul (ww 1) (m_bef wk mm2 ((nI i) - 1)))) (FP.fmul (ww 2) (m_bef wk mm2 ((nI i) - 2))))), (0, .ref h0), (1, .int (nI i)), (2, .int 0)]) hx hb dMod_foretold_31 hl (k := 1) rfl (by decide) (by decide) rfl (fun ls hl => ?_)
  refine lv_goto (tgt := 5) hx hb dMod_foretold_34 (by decide) ?_
  refine lv_iload hx hb dMod_foretold_5 (lv_at hl 0 rfl) ?_
  refine lv_iconst (v := 5) hx hb dMod_foretold_7 (by decide) ?_
  refine lv_icmp_ge (tgt := 37) hx hb dMod_foretold_8 (by decide) (fun c9 => absurd c9 (by decide)) (fun _ => ?_)
  refine lv_fload_n hx hb dMod_foretold_11 rfl (lv_at hl 1 rfl) ?_
  refine lv_aload_n hx hb dMod_foretold_12 rfl (lv_at hl 2 rfl) ?_
  refine va_get (D := D) (ci := 6) (v := .ref f8) hx hb ht inMod hown hK hP 1 rfl rfl 7 (by decide) (ht _ kf_Mod_31) (fun _ h9 => h9) rfl dMod_foretold_13 ?_
  refine lv_iload hx hb dMod_foretold_16 (lv_at hl 0 rfl) ?_
  refine k_fald (j := 3) hx hb hK hP 0 0 rfl rfl (by unfold vp_in; decide) rfl dMod_foretold_18 ?_
  refine lv_aload_n hx hb dMod_foretold_19 rfl (lv_at hl 2 rfl) ?_
  refine lv_iload_n hx hb dMod_foretold_20 rfl (lv_at hl 3 rfl) ?_
  refine lv_iload hx hb dMod_foretold_21 (lv_at hl 0 rfl) ?_
  refine k_isub (v := (nI i) - 3) hx hb dMod_foretold_23 rfl ?_
  refine lv_iload_n hx hb dMod_foretold_24 rfl (lv_at hl 4 rfl) ?_
  refine q_f (wc := [(h0, .inr (6, [.ref f1, .ref f2, .ref f3, .ref f4, .ref f5, .ref f6, .ref f7, .ref f8, .ref f9, .ref f10, .ref f11, .ref n1, .ref n2, .ref n3, .ref n4, .int sm, .int ln, .int tt, .int cm, .int dm, .int si, .int mu, .int th, .int lin, .int oc, .int od])), (f3, .inl (cF, 16, .inr (.inr (.inl wk)))), (f7, .inl (cF, 4, .inr (.inr (.inl mm2))))]) (wr := [(f8, .inl (cF, 5, .inr (.inr (.inl ww))))]) [1, 2, 3] [0] hK hP hD hS hA rfl rfl (by decide) (by decide) (va_runV (As := [.int ((nI i) - 3), .int 0]) (rest := [.float (ww 3), .float (FP.fadd (FP.fadd FP.fconst0 (FP.fmul (ww 1) (m_bef wk mm2 ((nI i) - 1)))) (FP.fmul (ww 2) (m_bef wk mm2 ((nI i) - 2))))]) ⟨hx, hb, hml, hown, ht⟩ (c_Mod_before_0 l D cF cI H.size h0 f1 f2 f3 f4 f5 f6 f7 f8 f9 f10 f11 n1 n2 n3 n4 sm ln tt cm dm si mu th lin oc od wk mm2 ((nI i) - 3) (bef_1 (j := 3) (by decide) hi (by decide)) (bef_2 (j := 3) (by decide) hi (by decide))) (cwV 2 ht (g_V km_Mod_80 ki_Mod_before kv_Mod_before kI_Mod kc_Mod_before) rfl rfl rfl (by decide +kernel) ⟨Nat.le_of_ble_eq_true rfl, Nat.le_of_ble_eq_true rfl⟩) (cPre_V (ci := 6) (q0 := 0) hK hmb (hP.sub (ws' := [(h0, .inr (6, [.ref f1, .ref f2, .ref f3, .ref f4, .ref f5, .ref f6, .ref f7, .ref f8, .ref f9, .ref f10, .ref f11, .ref n1, .ref n2, .ref n3, .ref n4, .int sm, .int ln, .int tt, .int cm, .int dm, .int si, .int mu, .int th, .int lin, .int oc, .int od])), (f3, .inl (cF, 16, .inr (.inr (.inl wk)))), (f7, .inl (cF, 4, .inr (.inr (.inl mm2))))]) [1, 2, 3] rfl) (hD.sub (ws' := [(h0, .inr (6, [.ref f1, .ref f2, .ref f3, .ref f4, .ref f5, .ref f6, .ref f7, .ref f8, .ref f9, .ref f10, .ref f11, .ref n1, .ref n2, .ref n3, .ref n4, .int sm, .int ln, .int tt, .int cm, .int dm, .int si, .int mu, .int th, .int lin, .int oc, .int od])), (f3, .inl (cF, 16, .inr (.inr (.inl wk)))), (f7, .inl (cF, 4, .inr (.inr (.inl mm2))))]) [1, 2, 3] (by decide) rfl) rfl rfl) rfl rfl hl.1 rfl (lv_room (Nat.le_of_ble_eq_true rfl)) dMod_foretold_25 ⟨Nat.le_of_ble_eq_true rfl, Nat.le_of_ble_eq_true rfl⟩) (fun r10 u11 H locs w12 hP hD hS => ?_)
  subst w12
  have hP : va_P D vwCl [(f8, .inl (cF, 5, .inr (.inr (.inl ww)))), (h0, .inr (6, [.ref f1, .ref f2, .ref f3, .ref f4, .ref f5, .ref f6, .ref f7, .ref f8, .ref f9, .ref f10, .ref f11, .ref n1, .ref n2, .ref n3, .ref n4, .int sm, .int ln, .int tt, .int cm, .int dm, .int si, .int mu, .int th, .int lin, .int oc, .int od])), (f3, .inl (cF, 16, .inr (.inr (.inl wk)))), (f7, .inl (cF, 4, .inr (.inr (.inl mm2))))] H := hP
  have hD : va_D A [(f8, .inl (cF, 5, .inr (.inr (.inl ww)))), (h0, .inr (6, [.ref f1, .ref f2, .ref f3, .ref f4, .ref f5, .ref f6, .ref f7, .ref f8, .ref f9, .ref f10, .ref f11, .ref n1, .ref n2, .ref n3, .ref n4, .int sm, .int ln, .int tt, .int cm, .int dm, .int si, .int mu, .int th, .int lin, .int oc, .int od])), (f3, .inl (cF, 16, .inr (.inr (.inl wk)))), (f7, .inl (cF, 4, .inr (.inr (.inl mm2))))] := hD
  refine lv_fmul hx hb dMod_foretold_28 (fk_n (fk_mul (hw _) (bef_k hk9 hm9 _) (by decide) (by decide)) (by decide)) ?_
  refine lv_fadd hx hb dMod_foretold_29 (fk_n (fk_add (K := 157) (fk_mono (fk_add (K := 155) (fk_mono (fk_add (K := 153) (fk_mono (show fk 1 FP.fconst0 by unfold fk; decide) (by decide)) (fk_mono (fk_mul (hw _) (bef_k hk9 hm9 _) (by decide) (by decide)) (by decide)) (by decide)) (by decide)) (fk_mono (fk_mul (hw _) (bef_k hk9 hm9 _) (by decide) (by decide)) (by decide)) (by decide)) (by decide)) (fk_mono (fk_mul (hw _) (bef_k hk9 hm9 _) (by decide) (by decide)) (by decide)) (by decide)) (by decide)) ?_
  refine lv_fstore_n (lv' := [(3, .float (FP.fadd (FP.fadd (FP.fadd FP.fconst0 (FP.fmul (ww 1) (m_bef wk mm2 ((nI i) - 1)))) (FP.fmul (ww 2) (m_bef wk mm2 ((nI i) - 2)))) (FP.fmul (ww 3) (m_bef wk mm2 ((nI i) - 3))))), (4, .int 3), (0, .ref h0), (1, .int (nI i)), (2, .int 0)]) hx hb dMod_foretold_30 rfl hl (by decide) rfl (fun ls hl => ?_)
  refine lv_iinc (v := 4) (lv' := [(4, .int 4), (3, .float (FP.fadd (FP.fadd (FP.fadd FP.fconst0 (FP.fmul (ww 1) (m_bef wk mm2 ((nI i) - 1)))) (FP.fmul (ww 2) (m_bef wk mm2 ((nI i) - 2)))) (FP.fmul (ww 3) (m_bef wk mm2 ((nI i) - 3))))), (0, .ref h0), (1, .int (nI i)), (2, .int 0)]) hx hb dMod_foretold_31 hl (k := 1) rfl (by decide) (by decide) rfl (fun ls hl => ?_)
  refine lv_goto (tgt := 5) hx hb dMod_foretold_34 (by decide) ?_
  refine lv_iload hx hb dMod_foretold_5 (lv_at hl 0 rfl) ?_
  refine lv_iconst (v := 5) hx hb dMod_foretold_7 (by decide) ?_
  refine lv_icmp_ge (tgt := 37) hx hb dMod_foretold_8 (by decide) (fun c9 => absurd c9 (by decide)) (fun _ => ?_)
  refine lv_fload_n hx hb dMod_foretold_11 rfl (lv_at hl 1 rfl) ?_
  refine lv_aload_n hx hb dMod_foretold_12 rfl (lv_at hl 2 rfl) ?_
  refine va_get (D := D) (ci := 6) (v := .ref f8) hx hb ht inMod hown hK hP 1 rfl rfl 7 (by decide) (ht _ kf_Mod_31) (fun _ h9 => h9) rfl dMod_foretold_13 ?_
  refine lv_iload hx hb dMod_foretold_16 (lv_at hl 0 rfl) ?_
  refine k_fald (j := 4) hx hb hK hP 0 0 rfl rfl (by unfold vp_in; decide) rfl dMod_foretold_18 ?_
  refine lv_aload_n hx hb dMod_foretold_19 rfl (lv_at hl 2 rfl) ?_
  refine lv_iload_n hx hb dMod_foretold_20 rfl (lv_at hl 3 rfl) ?_
  refine lv_iload hx hb dMod_foretold_21 (lv_at hl 0 rfl) ?_
  refine k_isub (v := (nI i) - 4) hx hb dMod_foretold_23 rfl ?_
  refine lv_iload_n hx hb dMod_foretold_24 rfl (lv_at hl 4 rfl) ?_
  refine q_f (wc := [(h0, .inr (6, [.ref f1, .ref f2, .ref f3, .ref f4, .ref f5, .ref f6, .ref f7, .ref f8, .ref f9, .ref f10, .ref f11, .ref n1, .ref n2, .ref n3, .ref n4, .int sm, .int ln, .int tt, .int cm, .int dm, .int si, .int mu, .int th, .int lin, .int oc, .int od])), (f3, .inl (cF, 16, .inr (.inr (.inl wk)))), (f7, .inl (cF, 4, .inr (.inr (.inl mm2))))]) (wr := [(f8, .inl (cF, 5, .inr (.inr (.inl ww))))]) [1, 2, 3] [0] hK hP hD hS hA rfl rfl (by decide) (by decide) (va_runV (As := [.int ((nI i) - 4), .int 0]) (rest := [.float (ww 4), .float (FP.fadd (FP.fadd (FP.fadd FP.fconst0 (FP.fmul (ww 1) (m_bef wk mm2 ((nI i) - 1)))) (FP.fmul (ww 2) (m_bef wk mm2 ((nI i) - 2)))) (FP.fmul (ww 3) (m_bef wk mm2 ((nI i) - 3))))]) ⟨hx, hb, hml, hown, ht⟩ (c_Mod_before_0 l D cF cI H.size h0 f1 f2 f3 f4 f5 f6 f7 f8 f9 f10 f11 n1 n2 n3 n4 sm ln tt cm dm si mu th lin oc od wk mm2 ((nI i) - 4) (bef_1 (j := 4) (by decide) hi (by decide)) (bef_2 (j := 4) (by decide) hi (by decide))) (cwV 2 ht (g_V km_Mod_80 ki_Mod_before kv_Mod_before kI_Mod kc_Mod_before) rfl rfl rfl (by decide +kernel) ⟨Nat.le_of_ble_eq_true rfl, Nat.le_of_ble_eq_true rfl⟩) (cPre_V (ci := 6) (q0 := 0) hK hmb (hP.sub (ws' := [(h0, .inr (6, [.ref f1, .ref f2, .ref f3, .ref f4, .ref f5, .ref f6, .ref f7, .ref f8, .ref f9, .ref f10, .ref f11, .ref n1, .ref n2, .ref n3, .ref n4, .int sm, .int ln, .int tt, .int cm, .int dm, .int si, .int mu, .int th, .int lin, .int oc, .int od])), (f3, .inl (cF, 16, .inr (.inr (.inl wk)))), (f7, .inl (cF, 4, .inr (.inr (.inl mm2))))]) [1, 2, 3] rfl) (hD.sub (ws' := [(h0, .inr (6, [.ref f1, .ref f2, .ref f3, .ref f4, .ref f5, .ref f6, .ref f7, .ref f8, .ref f9, .ref f10, .ref f11, .ref n1, .ref n2, .ref n3, .ref n4, .int sm, .int ln, .int tt, .int cm, .int dm, .int si, .int mu, .int th, .int lin, .int oc, .int od])), (f3, .inl (cF, 16, .inr (.inr (.inl wk)))), (f7, .inl (cF, 4, .inr (.inr (.inl mm2))))]) [1, 2, 3] (by decide) rfl) rfl rfl) rfl rfl hl.1 rfl (lv_room (Nat.le_of_ble_eq_true rfl)) dMod_foretold_25 ⟨Nat.le_of_ble_eq_true rfl, Nat.le_of_ble_eq_true rfl⟩) (fun r14 u15 H locs w16 hP hD hS => ?_)
  subst w16
  have hP : va_P D vwCl [(f8, .inl (cF, 5, .inr (.inr (.inl ww)))), (h0, .inr (6, [.ref f1, .ref f2, .ref f3, .ref f4, .ref f5, .ref f6, .ref f7, .ref f8, .ref f9, .ref f10, .ref f11, .ref n1, .ref n2, .ref n3, .ref n4, .int sm, .int ln, .int tt, .int cm, .int dm, .int si, .int mu, .int th, .int lin, .int oc, .int od])), (f3, .inl (cF, 16, .inr (.inr (.inl wk)))), (f7, .inl (cF, 4, .inr (.inr (.inl mm2))))] H := hP
  have hD : va_D A [(f8, .inl (cF, 5, .inr (.inr (.inl ww)))), (h0, .inr (6, [.ref f1, .ref f2, .ref f3, .ref f4, .ref f5, .ref f6, .ref f7, .ref f8, .ref f9, .ref f10, .ref f11, .ref n1, .ref n2, .ref n3, .ref n4, .int sm, .int ln, .int tt, .int cm, .int dm, .int si, .int mu, .int th, .int lin, .int oc, .int od])), (f3, .inl (cF, 16, .inr (.inr (.inl wk)))), (f7, .inl (cF, 4, .inr (.inr (.inl mm2))))] := hD
  refine lv_fmul hx hb dMod_foretold_28 (fk_n (fk_mul (hw _) (bef_k hk9 hm9 _) (by decide) (by decide)) (by decide)) ?_
  refine lv_fadd hx hb dMod_foretold_29 (fk_n (fk_add (K := 159) (fk_mono (fk_add (K := 157) (fk_mono (fk_add (K := 155) (fk_mono (fk_add (K := 153) (fk_mono (show fk 1 FP.fconst0 by unfold fk; decide) (by decide)) (fk_mono (fk_mul (hw _) (bef_k hk9 hm9 _) (by decide) (by decide)) (by decide)) (by decide)) (by decide)) (fk_mono (fk_mul (hw _) (bef_k hk9 hm9 _) (by decide) (by decide)) (by decide)) (by decide)) (by decide)) (fk_mono (fk_mul (hw _) (bef_k hk9 hm9 _) (by decide) (by decide)) (by decide)) (by decide)) (by decide)) (fk_mono (fk_mul (hw _) (bef_k hk9 hm9 _) (by decide) (by decide)) (by decide)) (by decide)) (by decide)) ?_
  refine lv_fstore_n (lv' := [(3, .float (FP.fadd (FP.fadd (FP.fadd (FP.fadd FP.fconst0 (FP.fmul (ww 1) (m_bef wk mm2 ((nI i) - 1)))) (FP.fmul (ww 2) (m_bef wk mm2 ((nI i) - 2)))) (FP.fmul (ww 3) (m_bef wk mm2 ((nI i) - 3)))) (FP.fmul (ww 4) (m_bef wk mm2 ((nI i) - 4))))), (4, .int 4), (0, .ref h0), (1, .int (nI i)), (2, .int 0)]) hx hb dMod_foretold_30 rfl hl (by decide) rfl (fun ls hl => ?_)
  refine lv_iinc (v := 5) (lv' := [(4, .int 5), (3, .float (FP.fadd (FP.fadd (FP.fadd (FP.fadd FP.fconst0 (FP.fmul (ww 1) (m_bef wk mm2 ((nI i) - 1)))) (FP.fmul (ww 2) (m_bef wk mm2 ((nI i) - 2)))) (FP.fmul (ww 3) (m_bef wk mm2 ((nI i) - 3)))) (FP.fmul (ww 4) (m_bef wk mm2 ((nI i) - 4))))), (0, .ref h0), (1, .int (nI i)), (2, .int 0)]) hx hb dMod_foretold_31 hl (k := 1) rfl (by decide) (by decide) rfl (fun ls hl => ?_)
  refine lv_goto (tgt := 5) hx hb dMod_foretold_34 (by decide) ?_
  refine lv_iload hx hb dMod_foretold_5 (lv_at hl 0 rfl) ?_
  refine lv_iconst (v := 5) hx hb dMod_foretold_7 (by decide) ?_
  refine lv_icmp_ge (tgt := 37) hx hb dMod_foretold_8 (by decide) (fun _ => ?_) (fun c9 => absurd (by decide) c9)
  refine lv_fload_n hx hb dMod_foretold_37 rfl (lv_at hl 1 rfl) ?_
  have hP := hP.sub (ws' := [(h0, .inr (6, [.ref f1, .ref f2, .ref f3, .ref f4, .ref f5, .ref f6, .ref f7, .ref f8, .ref f9, .ref f10, .ref f11, .ref n1, .ref n2, .ref n3, .ref n4, .int sm, .int ln, .int tt, .int cm, .int dm, .int si, .int mu, .int th, .int lin, .int oc, .int od])), (f3, .inl (cF, 16, .inr (.inr (.inl wk)))), (f7, .inl (cF, 4, .inr (.inr (.inl mm2)))), (f8, .inl (cF, 5, .inr (.inr (.inl ww))))]) [1, 2, 3, 0] rfl
  have hD := hD.sub (ws' := [(h0, .inr (6, [.ref f1, .ref f2, .ref f3, .ref f4, .ref f5, .ref f6, .ref f7, .ref f8, .ref f9, .ref f10, .ref f11, .ref n1, .ref n2, .ref n3, .ref n4, .int sm, .int ln, .int tt, .int cm, .int dm, .int si, .int mu, .int th, .int lin, .int oc, .int od])), (f3, .inl (cF, 16, .inr (.inr (.inl wk)))), (f7, .inl (cF, 4, .inr (.inr (.inl mm2)))), (f8, .inl (cF, 5, .inr (.inr (.inl ww))))]) [1, 2, 3, 0] (by decide) rfl
  exact e_f () hx hb hr hlk hK hP hD hS rfl rfl dMod_foretold_38

set_option maxHeartbeats 4000000 in
set_option maxRecDepth 100000 in
theorem c_Mod_keep_1 (l : Launch) (D : va_G) (cF cI : ClassId) (sz : Nat) (h0 f1 f2 f3 f4 f5 f6 f7 f8 f9 f10 f11 n1 n2 n3 n4 : Nat) (sm : Int32) (ln : Int32) (tt : Int32) (cm : Int32) (dm : Int32) (si : Int32) (mu : Int32) (th : Int32) (lin : Int32) (oc : Int32) (od : Int32) (wk : Nat → UInt32) (yc : Nat → UInt32) (mm : Nat → UInt32) : Met l yMod_keep (.code yMod_keep cMod_keep 3 none :: TB) ({ frames := 0, cells := 0, slots := 0, locals := 0 }) (va_Pc [.ref h0, .int 1] (cPre D cF cI [(h0, .inr (6, [.ref f1, .ref f2, .ref f3, .ref f4, .ref f5, .ref f6, .ref f7, .ref f8, .ref f9, .ref f10, .ref f11, .ref n1, .ref n2, .ref n3, .ref n4, .int sm, .int ln, .int tt, .int cm, .int dm, .int si, .int mu, .int th, .int lin, .int oc, .int od])), (f3, .inl (cF, 16, .inr (.inr (.inl wk)))), (f4, .inl (cF, 16, .inr (.inr (.inl yc)))), (f6, .inl (cF, 4, .inr (.inr (.inl mm))))] sz)) (va_Qv (fun _ : Unit => True) (cB D cF cI (va_A [(h0, .inr (6, [.ref f1, .ref f2, .ref f3, .ref f4, .ref f5, .ref f6, .ref f7, .ref f8, .ref f9, .ref f10, .ref f11, .ref n1, .ref n2, .ref n3, .ref n4, .int sm, .int ln, .int tt, .int cm, .int dm, .int si, .int mu, .int th, .int lin, .int oc, .int od])), (f3, .inl (cF, 16, .inr (.inr (.inl wk)))), (f4, .inl (cF, 16, .inr (.inr (.inl yc)))), (f6, .inl (cF, 4, .inr (.inr (.inl mm))))] sz) (fun _ : Unit => [(h0, .inr (6, [.ref f1, .ref f2, .ref f3, .ref f4, .ref f5, .ref f6, .ref f7, .ref f8, .ref f9, .ref f10, .ref f11, .ref n1, .ref n2, .ref n3, .ref n4, .int sm, .int ln, .int tt, .int cm, .int dm, .int si, .int mu, .int th, .int lin, .int oc, .int od])), (f3, .inl (cF, 16, .inr (.inr (.inl wk)))), (f4, .inl (cF, 16, .inr (.inr (.inl (a_cp wk yc 16))))), (f6, .inl (cF, 4, .inr (.inr (.inl (m_mem mm wk)))))])) (va_A [(h0, .inr (6, [.ref f1, .ref f2, .ref f3, .ref f4, .ref f5, .ref f6, .ref f7, .ref f8, .ref f9, .ref f10, .ref f11, .ref n1, .ref n2, .ref n3, .ref n4, .int sm, .int ln, .int tt, .int cm, .int dm, .int si, .int mu, .int th, .int lin, .int oc, .int od])), (f3, .inl (cF, 16, .inr (.inr (.inl wk)))), (f4, .inl (cF, 16, .inr (.inr (.inl yc)))), (f6, .inl (cF, 4, .inr (.inr (.inl mm))))] sz)) 0 0 (va_A [(h0, .inr (6, [.ref f1, .ref f2, .ref f3, .ref f4, .ref f5, .ref f6, .ref f7, .ref f8, .ref f9, .ref f10, .ref f11, .ref n1, .ref n2, .ref n3, .ref n4, .int sm, .int ln, .int tt, .int cm, .int dm, .int si, .int mu, .int th, .int lin, .int oc, .int od])), (f3, .inl (cF, 16, .inr (.inr (.inl wk)))), (f4, .inl (cF, 16, .inr (.inr (.inl yc)))), (f6, .inl (cF, 4, .inr (.inr (.inl mm))))] sz) := by
  refine c_ofW (own := RMod) (by decide) rfl (fun p e s m below meth c hsz hx hb hr hml hown ht hlk hin hP hK hD hmb => ?_)
  subst hsz
  generalize hAe : va_A [(h0, .inr (6, [.ref f1, .ref f2, .ref f3, .ref f4, .ref f5, .ref f6, .ref f7, .ref f8, .ref f9, .ref f10, .ref f11, .ref n1, .ref n2, .ref n3, .ref n4, .int sm, .int ln, .int tt, .int cm, .int dm, .int si, .int mu, .int th, .int lin, .int oc, .int od])), (f3, .inl (cF, 16, .inr (.inr (.inl wk)))), (f4, .inl (cF, 16, .inr (.inr (.inl yc)))), (f6, .inl (cF, 4, .inr (.inr (.inl mm))))] s.heap.size = A at hD ⊢
  have hA : ∀ q : Nat, s.heap.size ≤ q → A q := fun q h => by rw [← hAe]; exact Or.inr h
  have hS : va_S A s.heap s.heap [] := va_S.rf
  have hl := lv_entry ([.ref h0, .int 1]) (n := 3) (Nat.le_of_ble_eq_true rfl)
  rw [lg_entry_eq]
  generalize (lg_sl ([.ref h0, .int 1]) ++ List.replicate (3 - (lg_sl ([.ref h0, .int 1])).length) Slot.unset).toArray = ls at hl ⊢
  have hl : lv_has ls 3 [(0, .ref h0), (1, .int 1)] := hl
  refine lv_iconst (v := 0) hx hb dMod_keep_0 (by decide) ?_
  refine lv_istore_n (lv' := [(2, .int 0), (0, .ref h0), (1, .int 1)]) hx hb dMod_keep_1 rfl hl (by decide) rfl (fun ls hl => ?_)
  have loop : ∀ (n i : Nat), i + n = 16 → ∀ (H : Heap) (locs : List Loc), va_P D vwCl [(h0, .inr (6, [.ref f1, .ref f2, .ref f3, .ref f4, .ref f5, .ref f6, .ref f7, .ref f8, .ref f9, .ref f10, .ref f11, .ref n1, .ref n2, .ref n3, .ref n4, .int sm, .int ln, .int tt, .int cm, .int dm, .int si, .int mu, .int th, .int lin, .int oc, .int od])), (f3, .inl (cF, 16, .inr (.inr (.inl wk)))), (f4, .inl (cF, 16, .inr (.inr (.inl (a_cp wk yc i))))), (f6, .inl (cF, 4, .inr (.inr (.inl mm))))] H → va_D A [(h0, .inr (6, [.ref f1, .ref f2, .ref f3, .ref f4, .ref f5, .ref f6, .ref f7, .ref f8, .ref f9, .ref f10, .ref f11, .ref n1, .ref n2, .ref n3, .ref n4, .int sm, .int ln, .int tt, .int cm, .int dm, .int si, .int mu, .int th, .int lin, .int oc, .int od])), (f3, .inl (cF, 16, .inr (.inr (.inl wk)))), (f4, .inl (cF, 16, .inr (.inr (.inl (a_cp wk yc i))))), (f6, .inl (cF, 4, .inr (.inr (.inl mm))))] → va_S A s.heap H locs → ∀ (ls : Array Slot), lv_has ls 3 [(2, .int (nI i)), (1, .int 1), (0, .ref h0)] → W p l e ({ frames := 0, cells := 0, slots := 0, locals := 0 } : Room) s m ([.ref h0, .int 1] : List Value).toArray below meth c H locs 0 0 (MQ below (va_Qv (fun _ : Unit => True) (cB D cF cI A (fun _ : Unit => [(h0, .inr (6, [.ref f1, .ref f2, .ref f3, .ref f4, .ref f5, .ref f6, .ref f7, .ref f8, .ref f9, .ref f10, .ref f11, .ref n1, .ref n2, .ref n3, .ref n4, .int sm, .int ln, .int tt, .int cm, .int dm, .int si, .int mu, .int th, .int lin, .int oc, .int od])), (f3, .inl (cF, 16, .inr (.inr (.inl wk)))), (f4, .inl (cF, 16, .inr (.inr (.inl (a_cp wk yc 16))))), (f6, .inl (cF, 4, .inr (.inr (.inl (m_mem mm wk)))))])) A) ([.ref h0, .int 1] : List Value).toArray s 0 0 A) (F0 m 2 ls []) := by
    intro n
    induction n with
    | zero =>
      intro i hi H locs hP hD hS ls hl
      obtain rfl : 16 = i := by omega
      refine lv_iload_n hx hb dMod_keep_2 rfl (lv_at hl 0 rfl) ?_
      refine lv_bipush (v := 16) hx hb dMod_keep_3 (by decide) ?_
      refine lv_icmp_ge (tgt := 45) hx hb dMod_keep_5 (by decide) (fun c1 => ?_) (fun c1 => ?_)
      · refine lv_iconst (v := 0) hx hb dMod_keep_45 (by decide) ?_
        refine lv_istore_n (lv' := [(2, .int 0), (1, .int 1), (0, .ref h0)]) hx hb dMod_keep_46 rfl hl (by decide) rfl (fun ls hl => ?_)
        refine lv_iload_n hx hb dMod_keep_47 rfl (lv_at hl 0 rfl) ?_
        refine lv_iconst (v := 4) hx hb dMod_keep_48 (by decide) ?_
        refine lv_icmp_ge (tgt := 95) hx hb dMod_keep_49 (by decide) (fun c9 => absurd c9 (by decide)) (fun _ => ?_)
        refine lv_iload_n hx hb dMod_keep_52 rfl (lv_at hl 1 rfl) ?_
        refine lv_if_eq (tgt := 74) hx hb dMod_keep_53 (by decide) (fun c9 => absurd c9 (by decide)) (fun _ => ?_)
        refine lv_aload_n hx hb dMod_keep_56 rfl (lv_at hl 2 rfl) ?_
        refine va_get (D := D) (ci := 6) (v := .ref f6) hx hb ht inMod hown hK hP 0 rfl rfl 5 (by decide) (ht _ kf_Mod_25) (fun _ h9 => h9) rfl dMod_keep_57 ?_
        refine lv_iload_n hx hb dMod_keep_60 rfl (lv_at hl 0 rfl) ?_
        refine lv_aload_n hx hb dMod_keep_61 rfl (lv_at hl 2 rfl) ?_
        refine va_get (D := D) (ci := 6) (v := .ref f3) hx hb ht inMod hown hK hP 0 rfl rfl 2 (by decide) (ht _ kf_Mod_16) (fun _ h9 => h9) rfl dMod_keep_62 ?_
        refine lv_bipush (v := 15) hx hb dMod_keep_65 (by decide) ?_
        refine lv_iload_n hx hb dMod_keep_67 rfl (lv_at hl 0 rfl) ?_
        refine k_isub (v := 15) hx hb dMod_keep_68 (by decide) ?_
        refine k_fald (j := 15) hx hb hK hP 1 0 rfl rfl (by unfold vp_in; decide) rfl dMod_keep_69 ?_
        refine k_fast (j := 0) (f1 := vf_upd mm 0 (wk 15)) hx hb hK hP hD hS 3 0 rfl rfl (by unfold vp_in; decide) rfl rfl dMod_keep_70 (fun H locs hP hD hS => ?_)
        have hP : va_P D vwCl [(h0, .inr (6, [.ref f1, .ref f2, .ref f3, .ref f4, .ref f5, .ref f6, .ref f7, .ref f8, .ref f9, .ref f10, .ref f11, .ref n1, .ref n2, .ref n3, .ref n4, .int sm, .int ln, .int tt, .int cm, .int dm, .int si, .int mu, .int th, .int lin, .int oc, .int od])), (f3, .inl (cF, 16, .inr (.inr (.inl wk)))), (f4, .inl (cF, 16, .inr (.inr (.inl (a_cp wk yc 16))))), (f6, .inl (cF, 4, .inr (.inr (.inl (vf_upd mm 0 (wk 15))))))] H := hP
        have hD : va_D A [(h0, .inr (6, [.ref f1, .ref f2, .ref f3, .ref f4, .ref f5, .ref f6, .ref f7, .ref f8, .ref f9, .ref f10, .ref f11, .ref n1, .ref n2, .ref n3, .ref n4, .int sm, .int ln, .int tt, .int cm, .int dm, .int si, .int mu, .int th, .int lin, .int oc, .int od])), (f3, .inl (cF, 16, .inr (.inr (.inl wk)))), (f4, .inl (cF, 16, .inr (.inr (.inl (a_cp wk yc 16))))), (f6, .inl (cF, 4, .inr (.inr (.inl (vf_upd mm 0 (wk 15))))))] := hD
        refine lv_goto (tgt := 89) hx hb dMod_keep_71 (by decide) ?_
        refine lv_iinc (v := 1) (lv' := [(2, .int 1), (1, .int 1), (0, .ref h0)]) hx hb dMod_keep_89 hl (k := 0) rfl (by decide) (by decide) rfl (fun ls hl => ?_)
        refine lv_goto (tgt := 47) hx hb dMod_keep_92 (by decide) ?_
        refine lv_iload_n hx hb dMod_keep_47 rfl (lv_at hl 0 rfl) ?_
        refine lv_iconst (v := 4) hx hb dMod_keep_48 (by decide) ?_
        refine lv_icmp_ge (tgt := 95) hx hb dMod_keep_49 (by decide) (fun c9 => absurd c9 (by decide)) (fun _ => ?_)
        refine lv_iload_n hx hb dMod_keep_52 rfl (lv_at hl 1 rfl) ?_
        refine lv_if_eq (tgt := 74) hx hb dMod_keep_53 (by decide) (fun c9 => absurd c9 (by decide)) (fun _ => ?_)
        refine lv_aload_n hx hb dMod_keep_56 rfl (lv_at hl 2 rfl) ?_
        refine va_get (D := D) (ci := 6) (v := .ref f6) hx hb ht inMod hown hK hP 0 rfl rfl 5 (by decide) (ht _ kf_Mod_25) (fun _ h9 => h9) rfl dMod_keep_57 ?_
        refine lv_iload_n hx hb dMod_keep_60 rfl (lv_at hl 0 rfl) ?_
        refine lv_aload_n hx hb dMod_keep_61 rfl (lv_at hl 2 rfl) ?_
        refine va_get (D := D) (ci := 6) (v := .ref f3) hx hb ht inMod hown hK hP 0 rfl rfl 2 (by decide) (ht _ kf_Mod_16) (fun _ h9 => h9) rfl dMod_keep_62 ?_
        refine lv_bipush (v := 15) hx hb dMod_keep_65 (by decide) ?_
        refine lv_iload_n hx hb dMod_keep_67 rfl (lv_at hl 0 rfl) ?_
        refine k_isub (v := 14) hx hb dMod_keep_68 (by decide) ?_
        refine k_fald (j := 14) hx hb hK hP 1 0 rfl rfl (by unfold vp_in; decide) rfl dMod_keep_69 ?_
        refine k_fast (j := 1) (f1 := vf_upd (vf_upd mm 0 (wk 15)) 1 (wk 14)) hx hb hK hP hD hS 3 0 rfl rfl (by unfold vp_in; decide) rfl rfl dMod_keep_70 (fun H locs hP hD hS => ?_)
        have hP : va_P D vwCl [(h0, .inr (6, [.ref f1, .ref f2, .ref f3, .ref f4, .ref f5, .ref f6, .ref f7, .ref f8, .ref f9, .ref f10, .ref f11, .ref n1, .ref n2, .ref n3, .ref n4, .int sm, .int ln, .int tt, .int cm, .int dm, .int si, .int mu, .int th, .int lin, .int oc, .int od])), (f3, .inl (cF, 16, .inr (.inr (.inl wk)))), (f4, .inl (cF, 16, .inr (.inr (.inl (a_cp wk yc 16))))), (f6, .inl (cF, 4, .inr (.inr (.inl (vf_upd (vf_upd mm 0 (wk 15)) 1 (wk 14))))))] H := hP
        have hD : va_D A [(h0, .inr (6, [.ref f1, .ref f2, .ref f3, .ref f4, .ref f5, .ref f6, .ref f7, .ref f8, .ref f9, .ref f10, .ref f11, .ref n1, .ref n2, .ref n3, .ref n4, .int sm, .int ln, .int tt, .int cm, .int dm, .int si, .int mu, .int th, .int lin, .int oc, .int od])), (f3, .inl (cF, 16, .inr (.inr (.inl wk)))), (f4, .inl (cF, 16, .inr (.inr (.inl (a_cp wk yc 16))))), (f6, .inl (cF, 4, .inr (.inr (.inl (vf_upd (vf_upd mm 0 (wk 15)) 1 (wk 14))))))] := hD
        refine lv_goto (tgt := 89) hx hb dMod_keep_71 (by decide) ?_
        refine lv_iinc (v := 2) (lv' := [(2, .int 2), (1, .int 1), (0, .ref h0)]) hx hb dMod_keep_89 hl (k := 0) rfl (by decide) (by decide) rfl (fun ls hl => ?_)
        refine lv_goto (tgt := 47) hx hb dMod_keep_92 (by decide) ?_
        refine lv_iload_n hx hb dMod_keep_47 rfl (lv_at hl 0 rfl) ?_
        refine lv_iconst (v := 4) hx hb dMod_keep_48 (by decide) ?_
        refine lv_icmp_ge (tgt := 95) hx hb dMod_keep_49 (by decide) (fun c9 => absurd c9 (by decide)) (fun _ => ?_)
        refine lv_iload_n hx hb dMod_keep_52 rfl (lv_at hl 1 rfl) ?_
        refine lv_if_eq (tgt := 74) hx hb dMod_keep_53 (by decide) (fun c9 => absurd c9 (by decide)) (fun _ => ?_)
        refine lv_aload_n hx hb dMod_keep_56 rfl (lv_at hl 2 rfl) ?_
        refine va_get (D := D) (ci := 6) (v := .ref f6) hx hb ht inMod hown hK hP 0 rfl rfl 5 (by decide) (ht _ kf_Mod_25) (fun _ h9 => h9) rfl dMod_keep_57 ?_
        refine lv_iload_n hx hb dMod_keep_60 rfl (lv_at hl 0 rfl) ?_
        refine lv_aload_n hx hb dMod_keep_61 rfl (lv_at hl 2 rfl) ?_
        refine va_get (D := D) (ci := 6) (v := .ref f3) hx hb ht inMod hown hK hP 0 rfl rfl 2 (by decide) (ht _ kf_Mod_16) (fun _ h9 => h9) rfl dMod_keep_62 ?_
        refine lv_bipush (v := 15) hx hb dMod_keep_65 (by decide) ?_
        refine lv_iload_n hx hb dMod_keep_67 rfl (lv_at hl 0 rfl) ?_
        refine k_isub (v := 13) hx hb dMod_keep_68 (by decide) ?_
        refine k_fald (j := 13) hx hb hK hP 1 0 rfl rfl (by unfold vp_in; decide) rfl dMod_keep_69 ?_
        refine k_fast (j := 2) (f1 := vf_upd (vf_upd (vf_upd mm 0 (wk 15)) 1 (wk 14)) 2 (wk 13)) hx hb hK hP hD hS 3 0 rfl rfl (by unfold vp_in; decide) rfl rfl dMod_keep_70 (fun H locs hP hD hS => ?_)
        have hP : va_P D vwCl [(h0, .inr (6, [.ref f1, .ref f2, .ref f3, .ref f4, .ref f5, .ref f6, .ref f7, .ref f8, .ref f9, .ref f10, .ref f11, .ref n1, .ref n2, .ref n3, .ref n4, .int sm, .int ln, .int tt, .int cm, .int dm, .int si, .int mu, .int th, .int lin, .int oc, .int od])), (f3, .inl (cF, 16, .inr (.inr (.inl wk)))), (f4, .inl (cF, 16, .inr (.inr (.inl (a_cp wk yc 16))))), (f6, .inl (cF, 4, .inr (.inr (.inl (vf_upd (vf_upd (vf_upd mm 0 (wk 15)) 1 (wk 14)) 2 (wk 13))))))] H := hP
        have hD : va_D A [(h0, .inr (6, [.ref f1, .ref f2, .ref f3, .ref f4, .ref f5, .ref f6, .ref f7, .ref f8, .ref f9, .ref f10, .ref f11, .ref n1, .ref n2, .ref n3, .ref n4, .int sm, .int ln, .int tt, .int cm, .int dm, .int si, .int mu, .int th, .int lin, .int oc, .int od])), (f3, .inl (cF, 16, .inr (.inr (.inl wk)))), (f4, .inl (cF, 16, .inr (.inr (.inl (a_cp wk yc 16))))), (f6, .inl (cF, 4, .inr (.inr (.inl (vf_upd (vf_upd (vf_upd mm 0 (wk 15)) 1 (wk 14)) 2 (wk 13))))))] := hD
        refine lv_goto (tgt := 89) hx hb dMod_keep_71 (by decide) ?_
        refine lv_iinc (v := 3) (lv' := [(2, .int 3), (1, .int 1), (0, .ref h0)]) hx hb dMod_keep_89 hl (k := 0) rfl (by decide) (by decide) rfl (fun ls hl => ?_)
        refine lv_goto (tgt := 47) hx hb dMod_keep_92 (by decide) ?_
        refine lv_iload_n hx hb dMod_keep_47 rfl (lv_at hl 0 rfl) ?_
        refine lv_iconst (v := 4) hx hb dMod_keep_48 (by decide) ?_
        refine lv_icmp_ge (tgt := 95) hx hb dMod_keep_49 (by decide) (fun c9 => absurd c9 (by decide)) (fun _ => ?_)
        refine lv_iload_n hx hb dMod_keep_52 rfl (lv_at hl 1 rfl) ?_
        refine lv_if_eq (tgt := 74) hx hb dMod_keep_53 (by decide) (fun c9 => absurd c9 (by decide)) (fun _ => ?_)
        refine lv_aload_n hx hb dMod_keep_56 rfl (lv_at hl 2 rfl) ?_
        refine va_get (D := D) (ci := 6) (v := .ref f6) hx hb ht inMod hown hK hP 0 rfl rfl 5 (by decide) (ht _ kf_Mod_25) (fun _ h9 => h9) rfl dMod_keep_57 ?_
        refine lv_iload_n hx hb dMod_keep_60 rfl (lv_at hl 0 rfl) ?_
        refine lv_aload_n hx hb dMod_keep_61 rfl (lv_at hl 2 rfl) ?_
        refine va_get (D := D) (ci := 6) (v := .ref f3) hx hb ht inMod hown hK hP 0 rfl rfl 2 (by decide) (ht _ kf_Mod_16) (fun _ h9 => h9) rfl dMod_keep_62 ?_
        refine lv_bipush (v := 15) hx hb dMod_keep_65 (by decide) ?_
        refine lv_iload_n hx hb dMod_keep_67 rfl (lv_at hl 0 rfl) ?_
        refine k_isub (v := 12) hx hb dMod_keep_68 (by decide) ?_
        refine k_fald (j := 12) hx hb hK hP 1 0 rfl rfl (by unfold vp_in; decide) rfl dMod_keep_69 ?_
        refine k_fast (j := 3) (f1 := vf_upd (vf_upd (vf_upd (vf_upd mm 0 (wk 15)) 1 (wk 14)) 2 (wk 13)) 3 (wk 12)) hx hb hK hP hD hS 3 0 rfl rfl (by unfold vp_in; decide) rfl rfl dMod_keep_70 (fun H locs hP hD hS => ?_)
        have hP : va_P D vwCl [(h0, .inr (6, [.ref f1, .ref f2, .ref f3, .ref f4, .ref f5, .ref f6, .ref f7, .ref f8, .ref f9, .ref f10, .ref f11, .ref n1, .ref n2, .ref n3, .ref n4, .int sm, .int ln, .int tt, .int cm, .int dm, .int si, .int mu, .int th, .int lin, .int oc, .int od])), (f3, .inl (cF, 16, .inr (.inr (.inl wk)))), (f4, .inl (cF, 16, .inr (.inr (.inl (a_cp wk yc 16))))), (f6, .inl (cF, 4, .inr (.inr (.inl (vf_upd (vf_upd (vf_upd (vf_upd mm 0 (wk 15)) 1 (wk 14)) 2 (wk 13)) 3 (wk 12))))))] H := hP
        have hD : va_D A [(h0, .inr (6, [.ref f1, .ref f2, .ref f3, .ref f4, .ref f5, .ref f6, .ref f7, .ref f8, .ref f9, .ref f10, .ref f11, .ref n1, .ref n2, .ref n3, .ref n4, .int sm, .int ln, .int tt, .int cm, .int dm, .int si, .int mu, .int th, .int lin, .int oc, .int od])), (f3, .inl (cF, 16, .inr (.inr (.inl wk)))), (f4, .inl (cF, 16, .inr (.inr (.inl (a_cp wk yc 16))))), (f6, .inl (cF, 4, .inr (.inr (.inl (vf_upd (vf_upd (vf_upd (vf_upd mm 0 (wk 15)) 1 (wk 14)) 2 (wk 13)) 3 (wk 12))))))] := hD
        refine lv_goto (tgt := 89) hx hb dMod_keep_71 (by decide) ?_
        refine lv_iinc (v := 4) (lv' := [(2, .int 4), (1, .int 1), (0, .ref h0)]) hx hb dMod_keep_89 hl (k := 0) rfl (by decide) (by decide) rfl (fun ls hl => ?_)
        refine lv_goto (tgt := 47) hx hb dMod_keep_92 (by decide) ?_
        refine lv_iload_n hx hb dMod_keep_47 rfl (lv_at hl 0 rfl) ?_
        refine lv_iconst (v := 4) hx hb dMod_keep_48 (by decide) ?_
        refine lv_icmp_ge (tgt := 95) hx hb dMod_keep_49 (by decide) (fun _ => ?_) (fun c9 => absurd (by decide) c9)
        have hP := hP.sub (ws' := [(h0, .inr (6, [.ref f1, .ref f2, .ref f3, .ref f4, .ref f5, .ref f6, .ref f7, .ref f8, .ref f9, .ref f10, .ref f11, .ref n1, .ref n2, .ref n3, .ref n4, .int sm, .int ln, .int tt, .int cm, .int dm, .int si, .int mu, .int th, .int lin, .int oc, .int od])), (f3, .inl (cF, 16, .inr (.inr (.inl wk)))), (f4, .inl (cF, 16, .inr (.inr (.inl (a_cp wk yc 16))))), (f6, .inl (cF, 4, .inr (.inr (.inl (vf_upd (vf_upd (vf_upd (vf_upd mm 0 (wk 15)) 1 (wk 14)) 2 (wk 13)) 3 (wk 12))))))]) [0, 1, 2, 3] rfl
        have hD := hD.sub (ws' := [(h0, .inr (6, [.ref f1, .ref f2, .ref f3, .ref f4, .ref f5, .ref f6, .ref f7, .ref f8, .ref f9, .ref f10, .ref f11, .ref n1, .ref n2, .ref n3, .ref n4, .int sm, .int ln, .int tt, .int cm, .int dm, .int si, .int mu, .int th, .int lin, .int oc, .int od])), (f3, .inl (cF, 16, .inr (.inr (.inl wk)))), (f4, .inl (cF, 16, .inr (.inr (.inl (a_cp wk yc 16))))), (f6, .inl (cF, 4, .inr (.inr (.inl (vf_upd (vf_upd (vf_upd (vf_upd mm 0 (wk 15)) 1 (wk 14)) 2 (wk 13)) 3 (wk 12))))))]) [0, 1, 2, 3] (by decide) rfl
        exact e_v () hx hb hr hlk hK hP hD hS rfl trivial dMod_keep_95
      · exact absurd (by decide) c1
    | succ n ih =>
      intro i hi H locs hP hD hS ls hl
      have hi1 : i < 16 := by omega
      refine lv_iload_n hx hb dMod_keep_2 rfl (lv_at hl 0 rfl) ?_
      refine lv_bipush (v := 16) hx hb dMod_keep_3 (by decide) ?_
      refine lv_icmp_ge (tgt := 45) hx hb dMod_keep_5 (by decide) (fun c11 => ?_) (fun c11 => ?_)
      · exact absurd c11 (lt_up (N := 16) (by decide) hi1 (by decide))
      · refine lv_iload_n hx hb dMod_keep_8 rfl (lv_at hl 1 rfl) ?_
        refine lv_if_eq (tgt := 27) hx hb dMod_keep_9 (by decide) (fun c9 => absurd c9 (by decide)) (fun _ => ?_)
        refine lv_aload_n hx hb dMod_keep_12 rfl (lv_at hl 2 rfl) ?_
        refine va_get (D := D) (ci := 6) (v := .ref f4) hx hb ht inMod hown hK hP 0 rfl rfl 3 (by decide) (ht _ kf_Mod_19) (fun _ h9 => h9) rfl dMod_keep_13 ?_
        refine lv_iload_n hx hb dMod_keep_16 rfl (lv_at hl 0 rfl) ?_
        refine lv_aload_n hx hb dMod_keep_17 rfl (lv_at hl 2 rfl) ?_
        refine va_get (D := D) (ci := 6) (v := .ref f3) hx hb ht inMod hown hK hP 0 rfl rfl 2 (by decide) (ht _ kf_Mod_16) (fun _ h9 => h9) rfl dMod_keep_18 ?_
        refine lv_iload_n hx hb dMod_keep_21 rfl (lv_at hl 0 rfl) ?_
        refine k_fald (j := i) hx hb hK hP 1 0 rfl rfl (vp_in_nI (by omega) (by decide)) (nI_clamp (by omega)) dMod_keep_22 ?_
        refine k_fast (j := i) (f1 := a_cp wk yc (i + 1)) hx hb hK hP hD hS 2 0 rfl rfl (vp_in_nI (by omega) (by decide)) (nI_clamp (by omega)) (a_cp_s wk yc i) dMod_keep_23 (fun H locs hP hD hS => ?_)
        have hP : va_P D vwCl [(h0, .inr (6, [.ref f1, .ref f2, .ref f3, .ref f4, .ref f5, .ref f6, .ref f7, .ref f8, .ref f9, .ref f10, .ref f11, .ref n1, .ref n2, .ref n3, .ref n4, .int sm, .int ln, .int tt, .int cm, .int dm, .int si, .int mu, .int th, .int lin, .int oc, .int od])), (f3, .inl (cF, 16, .inr (.inr (.inl wk)))), (f4, .inl (cF, 16, .inr (.inr (.inl (a_cp wk yc (i + 1)))))), (f6, .inl (cF, 4, .inr (.inr (.inl mm))))] H := hP
        have hD : va_D A [(h0, .inr (6, [.ref f1, .ref f2, .ref f3, .ref f4, .ref f5, .ref f6, .ref f7, .ref f8, .ref f9, .ref f10, .ref f11, .ref n1, .ref n2, .ref n3, .ref n4, .int sm, .int ln, .int tt, .int cm, .int dm, .int si, .int mu, .int th, .int lin, .int oc, .int od])), (f3, .inl (cF, 16, .inr (.inr (.inl wk)))), (f4, .inl (cF, 16, .inr (.inr (.inl (a_cp wk yc (i + 1)))))), (f6, .inl (cF, 4, .inr (.inr (.inl mm))))] := hD
        refine lv_goto (tgt := 39) hx hb dMod_keep_24 (by decide) ?_
        refine lv_iinc (v := nI (i + 1)) (lv' := [(2, .int (nI (i + 1))), (1, .int 1), (0, .ref h0)]) hx hb dMod_keep_39 hl (k := 0) rfl (nI_1 i) (by decide) rfl (fun ls hl => ?_)
        refine lv_goto (tgt := 2) hx hb dMod_keep_42 (by decide) ?_
        exact ih (i + 1) (by omega)  _ _ (hP.sub (ws' := [(h0, .inr (6, [.ref f1, .ref f2, .ref f3, .ref f4, .ref f5, .ref f6, .ref f7, .ref f8, .ref f9, .ref f10, .ref f11, .ref n1, .ref n2, .ref n3, .ref n4, .int sm, .int ln, .int tt, .int cm, .int dm, .int si, .int mu, .int th, .int lin, .int oc, .int od])), (f3, .inl (cF, 16, .inr (.inr (.inl wk)))), (f4, .inl (cF, 16, .inr (.inr (.inl (a_cp wk yc (i + 1)))))), (f6, .inl (cF, 4, .inr (.inr (.inl mm))))]) [0, 1, 2, 3] rfl) (hD.sub (ws' := [(h0, .inr (6, [.ref f1, .ref f2, .ref f3, .ref f4, .ref f5, .ref f6, .ref f7, .ref f8, .ref f9, .ref f10, .ref f11, .ref n1, .ref n2, .ref n3, .ref n4, .int sm, .int ln, .int tt, .int cm, .int dm, .int si, .int mu, .int th, .int lin, .int oc, .int od])), (f3, .inl (cF, 16, .inr (.inr (.inl wk)))), (f4, .inl (cF, 16, .inr (.inr (.inl (a_cp wk yc (i + 1)))))), (f6, .inl (cF, 4, .inr (.inr (.inl mm))))]) [0, 1, 2, 3] (by decide) rfl) hS ls (lv_sub hl [0, 1, 2] rfl)
  rw [← a_cp_0 wk yc] at hP hD
  exact loop 16 0 (by omega)  _ _ (hP.sub (ws' := [(h0, .inr (6, [.ref f1, .ref f2, .ref f3, .ref f4, .ref f5, .ref f6, .ref f7, .ref f8, .ref f9, .ref f10, .ref f11, .ref n1, .ref n2, .ref n3, .ref n4, .int sm, .int ln, .int tt, .int cm, .int dm, .int si, .int mu, .int th, .int lin, .int oc, .int od])), (f3, .inl (cF, 16, .inr (.inr (.inl wk)))), (f4, .inl (cF, 16, .inr (.inr (.inl (a_cp wk yc 0))))), (f6, .inl (cF, 4, .inr (.inr (.inl mm))))]) [0, 1, 2, 3] rfl) (hD.sub (ws' := [(h0, .inr (6, [.ref f1, .ref f2, .ref f3, .ref f4, .ref f5, .ref f6, .ref f7, .ref f8, .ref f9, .ref f10, .ref f11, .ref n1, .ref n2, .ref n3, .ref n4, .int sm, .int ln, .int tt, .int cm, .int dm, .int si, .int mu, .int th, .int lin, .int oc, .int od])), (f3, .inl (cF, 16, .inr (.inr (.inl wk)))), (f4, .inl (cF, 16, .inr (.inr (.inl (a_cp wk yc 0))))), (f6, .inl (cF, 4, .inr (.inr (.inl mm))))]) [0, 1, 2, 3] (by decide) rfl) hS ls (by have hl := lv_sub hl (l' := [(2, .int 0), (1, .int 1), (0, .ref h0)]) [0, 2, 1] rfl; try rw [show (0 : Int32) = nI 0 from (by decide)] at hl; exact hl)

set_option maxHeartbeats 4000000 in
set_option maxRecDepth 100000 in
theorem c_Mod_keep_0 (l : Launch) (D : va_G) (cF cI : ClassId) (sz : Nat) (h0 f1 f2 f3 f4 f5 f6 f7 f8 f9 f10 f11 n1 n2 n3 n4 : Nat) (sm : Int32) (ln : Int32) (tt : Int32) (cm : Int32) (dm : Int32) (si : Int32) (mu : Int32) (th : Int32) (lin : Int32) (oc : Int32) (od : Int32) (wk : Nat → UInt32) (yd : Nat → UInt32) (mm2 : Nat → UInt32) : Met l yMod_keep (.code yMod_keep cMod_keep 3 none :: TB) ({ frames := 0, cells := 0, slots := 0, locals := 0 }) (va_Pc [.ref h0, .int 0] (cPre D cF cI [(h0, .inr (6, [.ref f1, .ref f2, .ref f3, .ref f4, .ref f5, .ref f6, .ref f7, .ref f8, .ref f9, .ref f10, .ref f11, .ref n1, .ref n2, .ref n3, .ref n4, .int sm, .int ln, .int tt, .int cm, .int dm, .int si, .int mu, .int th, .int lin, .int oc, .int od])), (f3, .inl (cF, 16, .inr (.inr (.inl wk)))), (f5, .inl (cF, 16, .inr (.inr (.inl yd)))), (f7, .inl (cF, 4, .inr (.inr (.inl mm2))))] sz)) (va_Qv (fun _ : Unit => True) (cB D cF cI (va_A [(h0, .inr (6, [.ref f1, .ref f2, .ref f3, .ref f4, .ref f5, .ref f6, .ref f7, .ref f8, .ref f9, .ref f10, .ref f11, .ref n1, .ref n2, .ref n3, .ref n4, .int sm, .int ln, .int tt, .int cm, .int dm, .int si, .int mu, .int th, .int lin, .int oc, .int od])), (f3, .inl (cF, 16, .inr (.inr (.inl wk)))), (f5, .inl (cF, 16, .inr (.inr (.inl yd)))), (f7, .inl (cF, 4, .inr (.inr (.inl mm2))))] sz) (fun _ : Unit => [(h0, .inr (6, [.ref f1, .ref f2, .ref f3, .ref f4, .ref f5, .ref f6, .ref f7, .ref f8, .ref f9, .ref f10, .ref f11, .ref n1, .ref n2, .ref n3, .ref n4, .int sm, .int ln, .int tt, .int cm, .int dm, .int si, .int mu, .int th, .int lin, .int oc, .int od])), (f3, .inl (cF, 16, .inr (.inr (.inl wk)))), (f5, .inl (cF, 16, .inr (.inr (.inl (a_cp wk yd 16))))), (f7, .inl (cF, 4, .inr (.inr (.inl (m_mem mm2 wk)))))])) (va_A [(h0, .inr (6, [.ref f1, .ref f2, .ref f3, .ref f4, .ref f5, .ref f6, .ref f7, .ref f8, .ref f9, .ref f10, .ref f11, .ref n1, .ref n2, .ref n3, .ref n4, .int sm, .int ln, .int tt, .int cm, .int dm, .int si, .int mu, .int th, .int lin, .int oc, .int od])), (f3, .inl (cF, 16, .inr (.inr (.inl wk)))), (f5, .inl (cF, 16, .inr (.inr (.inl yd)))), (f7, .inl (cF, 4, .inr (.inr (.inl mm2))))] sz)) 0 0 (va_A [(h0, .inr (6, [.ref f1, .ref f2, .ref f3, .ref f4, .ref f5, .ref f6, .ref f7, .ref f8, .ref f9, .ref f10, .ref f11, .ref n1, .ref n2, .ref n3, .ref n4, .int sm, .int ln, .int tt, .int cm, .int dm, .int si, .int mu, .int th, .int lin, .int oc, .int od])), (f3, .inl (cF, 16, .inr (.inr (.inl wk)))), (f5, .inl (cF, 16, .inr (.inr (.inl yd)))), (f7, .inl (cF, 4, .inr (.inr (.inl mm2))))] sz) := by
  refine c_ofW (own := RMod) (by decide) rfl (fun p e s m below meth c hsz hx hb hr hml hown ht hlk hin hP hK hD hmb => ?_)
  subst hsz
  generalize hAe : va_A [(h0, .inr (6, [.ref f1, .ref f2, .ref f3, .ref f4, .ref f5, .ref f6, .ref f7, .ref f8, .ref f9, .ref f10, .ref f11, .ref n1, .ref n2, .ref n3, .ref n4, .int sm, .int ln, .int tt, .int cm, .int dm, .int si, .int mu, .int th, .int lin, .int oc, .int od])), (f3, .inl (cF, 16, .inr (.inr (.inl wk)))), (f5, .inl (cF, 16, .inr (.inr (.inl yd)))), (f7, .inl (cF, 4, .inr (.inr (.inl mm2))))] s.heap.size = A at hD ⊢
  have hA : ∀ q : Nat, s.heap.size ≤ q → A q := fun q h => by rw [← hAe]; exact Or.inr h
  have hS : va_S A s.heap s.heap [] := va_S.rf
  have hl := lv_entry ([.ref h0, .int 0]) (n := 3) (Nat.le_of_ble_eq_true rfl)
  rw [lg_entry_eq]
  generalize (lg_sl ([.ref h0, .int 0]) ++ List.replicate (3 - (lg_sl ([.ref h0, .int 0])).length) Slot.unset).toArray = ls at hl ⊢
  have hl : lv_has ls 3 [(0, .ref h0), (1, .int 0)] := hl
  refine lv_iconst (v := 0) hx hb dMod_keep_0 (by decide) ?_
  refine lv_istore_n (lv' := [(2, .int 0), (0, .ref h0), (1, .int 0)]) hx hb dMod_keep_1 rfl hl (by decide) rfl (fun ls hl => ?_)
  have loop : ∀ (n i : Nat), i + n = 16 → ∀ (H : Heap) (locs : List Loc), va_P D vwCl [(h0, .inr (6, [.ref f1, .ref f2, .ref f3, .ref f4, .ref f5, .ref f6, .ref f7, .ref f8, .ref f9, .ref f10, .ref f11, .ref n1, .ref n2, .ref n3, .ref n4, .int sm, .int ln, .int tt, .int cm, .int dm, .int si, .int mu, .int th, .int lin, .int oc, .int od])), (f3, .inl (cF, 16, .inr (.inr (.inl wk)))), (f5, .inl (cF, 16, .inr (.inr (.inl (a_cp wk yd i))))), (f7, .inl (cF, 4, .inr (.inr (.inl mm2))))] H → va_D A [(h0, .inr (6, [.ref f1, .ref f2, .ref f3, .ref f4, .ref f5, .ref f6, .ref f7, .ref f8, .ref f9, .ref f10, .ref f11, .ref n1, .ref n2, .ref n3, .ref n4, .int sm, .int ln, .int tt, .int cm, .int dm, .int si, .int mu, .int th, .int lin, .int oc, .int od])), (f3, .inl (cF, 16, .inr (.inr (.inl wk)))), (f5, .inl (cF, 16, .inr (.inr (.inl (a_cp wk yd i))))), (f7, .inl (cF, 4, .inr (.inr (.inl mm2))))] → va_S A s.heap H locs → ∀ (ls : Array Slot), lv_has ls 3 [(2, .int (nI i)), (1, .int 0), (0, .ref h0)] → W p l e ({ frames := 0, cells := 0, slots := 0, locals := 0 } : Room) s m ([.ref h0, .int 0] : List Value).toArray below meth c H locs 0 0 (MQ below (va_Qv (fun _ : Unit => True) (cB D cF cI A (fun _ : Unit => [(h0, .inr (6, [.ref f1, .ref f2, .ref f3, .ref f4, .ref f5, .ref f6, .ref f7, .ref f8, .ref f9, .ref f10, .ref f11, .ref n1, .ref n2, .ref n3, .ref n4, .int sm, .int ln, .int tt, .int cm, .int dm, .int si, .int mu, .int th, .int lin, .int oc, .int od])), (f3, .inl (cF, 16, .inr (.inr (.inl wk)))), (f5, .inl (cF, 16, .inr (.inr (.inl (a_cp wk yd 16))))), (f7, .inl (cF, 4, .inr (.inr (.inl (m_mem mm2 wk)))))])) A) ([.ref h0, .int 0] : List Value).toArray s 0 0 A) (F0 m 2 ls []) := by
    intro n
    induction n with
    | zero =>
      intro i hi H locs hP hD hS ls hl
      obtain rfl : 16 = i := by omega
      refine lv_iload_n hx hb dMod_keep_2 rfl (lv_at hl 0 rfl) ?_
      refine lv_bipush (v := 16) hx hb dMod_keep_3 (by decide) ?_
      refine lv_icmp_ge (tgt := 45) hx hb dMod_keep_5 (by decide) (fun c1 => ?_) (fun c1 => ?_)
      · refine lv_iconst (v := 0) hx hb dMod_keep_45 (by decide) ?_
        refine lv_istore_n (lv' := [(2, .int 0), (1, .int 0), (0, .ref h0)]) hx hb dMod_keep_46 rfl hl (by decide) rfl (fun ls hl => ?_)
        refine lv_iload_n hx hb dMod_keep_47 rfl (lv_at hl 0 rfl) ?_
        refine lv_iconst (v := 4) hx hb dMod_keep_48 (by decide) ?_
        refine lv_icmp_ge (tgt := 95) hx hb dMod_keep_49 (by decide) (fun c9 => absurd c9 (by decide)) (fun _ => ?_)
        refine lv_iload_n hx hb dMod_keep_52 rfl (lv_at hl 1 rfl) ?_
        refine lv_if_eq (tgt := 74) hx hb dMod_keep_53 (by decide) (fun _ => ?_) (fun c9 => absurd (by decide) c9)
        refine lv_aload_n hx hb dMod_keep_74 rfl (lv_at hl 2 rfl) ?_
        refine va_get (D := D) (ci := 6) (v := .ref f7) hx hb ht inMod hown hK hP 0 rfl rfl 6 (by decide) (ht _ kf_Mod_28) (fun _ h9 => h9) rfl dMod_keep_75 ?_
        refine lv_iload_n hx hb dMod_keep_78 rfl (lv_at hl 0 rfl) ?_
        refine lv_aload_n hx hb dMod_keep_79 rfl (lv_at hl 2 rfl) ?_
        refine va_get (D := D) (ci := 6) (v := .ref f3) hx hb ht inMod hown hK hP 0 rfl rfl 2 (by decide) (ht _ kf_Mod_16) (fun _ h9 => h9) rfl dMod_keep_80 ?_
        refine lv_bipush (v := 15) hx hb dMod_keep_83 (by decide) ?_
        refine lv_iload_n hx hb dMod_keep_85 rfl (lv_at hl 0 rfl) ?_
        refine k_isub (v := 15) hx hb dMod_keep_86 (by decide) ?_
        refine k_fald (j := 15) hx hb hK hP 1 0 rfl rfl (by unfold vp_in; decide) rfl dMod_keep_87 ?_
        refine k_fast (j := 0) (f1 := vf_upd mm2 0 (wk 15)) hx hb hK hP hD hS 3 0 rfl rfl (by unfold vp_in; decide) rfl rfl dMod_keep_88 (fun H locs hP hD hS => ?_)
        have hP : va_P D vwCl [(h0, .inr (6, [.ref f1, .ref f2, .ref f3, .ref f4, .ref f5, .ref f6, .ref f7, .ref f8, .ref f9, .ref f10, .ref f11, .ref n1, .ref n2, .ref n3, .ref n4, .int sm, .int ln, .int tt, .int cm, .int dm, .int si, .int mu, .int th, .int lin, .int oc, .int od])), (f3, .inl (cF, 16, .inr (.inr (.inl wk)))), (f5, .inl (cF, 16, .inr (.inr (.inl (a_cp wk yd 16))))), (f7, .inl (cF, 4, .inr (.inr (.inl (vf_upd mm2 0 (wk 15))))))] H := hP
        have hD : va_D A [(h0, .inr (6, [.ref f1, .ref f2, .ref f3, .ref f4, .ref f5, .ref f6, .ref f7, .ref f8, .ref f9, .ref f10, .ref f11, .ref n1, .ref n2, .ref n3, .ref n4, .int sm, .int ln, .int tt, .int cm, .int dm, .int si, .int mu, .int th, .int lin, .int oc, .int od])), (f3, .inl (cF, 16, .inr (.inr (.inl wk)))), (f5, .inl (cF, 16, .inr (.inr (.inl (a_cp wk yd 16))))), (f7, .inl (cF, 4, .inr (.inr (.inl (vf_upd mm2 0 (wk 15))))))] := hD
        refine lv_iinc (v := 1) (lv' := [(2, .int 1), (1, .int 0), (0, .ref h0)]) hx hb dMod_keep_89 hl (k := 0) rfl (by decide) (by decide) rfl (fun ls hl => ?_)
        refine lv_goto (tgt := 47) hx hb dMod_keep_92 (by decide) ?_
        refine lv_iload_n hx hb dMod_keep_47 rfl (lv_at hl 0 rfl) ?_
        refine lv_iconst (v := 4) hx hb dMod_keep_48 (by decide) ?_
        refine lv_icmp_ge (tgt := 95) hx hb dMod_keep_49 (by decide) (fun c9 => absurd c9 (by decide)) (fun _ => ?_)
        refine lv_iload_n hx hb dMod_keep_52 rfl (lv_at hl 1 rfl) ?_
        refine lv_if_eq (tgt := 74) hx hb dMod_keep_53 (by decide) (fun _ => ?_) (fun c9 => absurd (by decide) c9)
        refine lv_aload_n hx hb dMod_keep_74 rfl (lv_at hl 2 rfl) ?_
        refine va_get (D := D) (ci := 6) (v := .ref f7) hx hb ht inMod hown hK hP 0 rfl rfl 6 (by decide) (ht _ kf_Mod_28) (fun _ h9 => h9) rfl dMod_keep_75 ?_
        refine lv_iload_n hx hb dMod_keep_78 rfl (lv_at hl 0 rfl) ?_
        refine lv_aload_n hx hb dMod_keep_79 rfl (lv_at hl 2 rfl) ?_
        refine va_get (D := D) (ci := 6) (v := .ref f3) hx hb ht inMod hown hK hP 0 rfl rfl 2 (by decide) (ht _ kf_Mod_16) (fun _ h9 => h9) rfl dMod_keep_80 ?_
        refine lv_bipush (v := 15) hx hb dMod_keep_83 (by decide) ?_
        refine lv_iload_n hx hb dMod_keep_85 rfl (lv_at hl 0 rfl) ?_
        refine k_isub (v := 14) hx hb dMod_keep_86 (by decide) ?_
        refine k_fald (j := 14) hx hb hK hP 1 0 rfl rfl (by unfold vp_in; decide) rfl dMod_keep_87 ?_
        refine k_fast (j := 1) (f1 := vf_upd (vf_upd mm2 0 (wk 15)) 1 (wk 14)) hx hb hK hP hD hS 3 0 rfl rfl (by unfold vp_in; decide) rfl rfl dMod_keep_88 (fun H locs hP hD hS => ?_)
        have hP : va_P D vwCl [(h0, .inr (6, [.ref f1, .ref f2, .ref f3, .ref f4, .ref f5, .ref f6, .ref f7, .ref f8, .ref f9, .ref f10, .ref f11, .ref n1, .ref n2, .ref n3, .ref n4, .int sm, .int ln, .int tt, .int cm, .int dm, .int si, .int mu, .int th, .int lin, .int oc, .int od])), (f3, .inl (cF, 16, .inr (.inr (.inl wk)))), (f5, .inl (cF, 16, .inr (.inr (.inl (a_cp wk yd 16))))), (f7, .inl (cF, 4, .inr (.inr (.inl (vf_upd (vf_upd mm2 0 (wk 15)) 1 (wk 14))))))] H := hP
        have hD : va_D A [(h0, .inr (6, [.ref f1, .ref f2, .ref f3, .ref f4, .ref f5, .ref f6, .ref f7, .ref f8, .ref f9, .ref f10, .ref f11, .ref n1, .ref n2, .ref n3, .ref n4, .int sm, .int ln, .int tt, .int cm, .int dm, .int si, .int mu, .int th, .int lin, .int oc, .int od])), (f3, .inl (cF, 16, .inr (.inr (.inl wk)))), (f5, .inl (cF, 16, .inr (.inr (.inl (a_cp wk yd 16))))), (f7, .inl (cF, 4, .inr (.inr (.inl (vf_upd (vf_upd mm2 0 (wk 15)) 1 (wk 14))))))] := hD
        refine lv_iinc (v := 2) (lv' := [(2, .int 2), (1, .int 0), (0, .ref h0)]) hx hb dMod_keep_89 hl (k := 0) rfl (by decide) (by decide) rfl (fun ls hl => ?_)
        refine lv_goto (tgt := 47) hx hb dMod_keep_92 (by decide) ?_
        refine lv_iload_n hx hb dMod_keep_47 rfl (lv_at hl 0 rfl) ?_
        refine lv_iconst (v := 4) hx hb dMod_keep_48 (by decide) ?_
        refine lv_icmp_ge (tgt := 95) hx hb dMod_keep_49 (by decide) (fun c9 => absurd c9 (by decide)) (fun _ => ?_)
        refine lv_iload_n hx hb dMod_keep_52 rfl (lv_at hl 1 rfl) ?_
        refine lv_if_eq (tgt := 74) hx hb dMod_keep_53 (by decide) (fun _ => ?_) (fun c9 => absurd (by decide) c9)
        refine lv_aload_n hx hb dMod_keep_74 rfl (lv_at hl 2 rfl) ?_
        refine va_get (D := D) (ci := 6) (v := .ref f7) hx hb ht inMod hown hK hP 0 rfl rfl 6 (by decide) (ht _ kf_Mod_28) (fun _ h9 => h9) rfl dMod_keep_75 ?_
        refine lv_iload_n hx hb dMod_keep_78 rfl (lv_at hl 0 rfl) ?_
        refine lv_aload_n hx hb dMod_keep_79 rfl (lv_at hl 2 rfl) ?_
        refine va_get (D := D) (ci := 6) (v := .ref f3) hx hb ht inMod hown hK hP 0 rfl rfl 2 (by decide) (ht _ kf_Mod_16) (fun _ h9 => h9) rfl dMod_keep_80 ?_
        refine lv_bipush (v := 15) hx hb dMod_keep_83 (by decide) ?_
        refine lv_iload_n hx hb dMod_keep_85 rfl (lv_at hl 0 rfl) ?_
        refine k_isub (v := 13) hx hb dMod_keep_86 (by decide) ?_
        refine k_fald (j := 13) hx hb hK hP 1 0 rfl rfl (by unfold vp_in; decide) rfl dMod_keep_87 ?_
        refine k_fast (j := 2) (f1 := vf_upd (vf_upd (vf_upd mm2 0 (wk 15)) 1 (wk 14)) 2 (wk 13)) hx hb hK hP hD hS 3 0 rfl rfl (by unfold vp_in; decide) rfl rfl dMod_keep_88 (fun H locs hP hD hS => ?_)
        have hP : va_P D vwCl [(h0, .inr (6, [.ref f1, .ref f2, .ref f3, .ref f4, .ref f5, .ref f6, .ref f7, .ref f8, .ref f9, .ref f10, .ref f11, .ref n1, .ref n2, .ref n3, .ref n4, .int sm, .int ln, .int tt, .int cm, .int dm, .int si, .int mu, .int th, .int lin, .int oc, .int od])), (f3, .inl (cF, 16, .inr (.inr (.inl wk)))), (f5, .inl (cF, 16, .inr (.inr (.inl (a_cp wk yd 16))))), (f7, .inl (cF, 4, .inr (.inr (.inl (vf_upd (vf_upd (vf_upd mm2 0 (wk 15)) 1 (wk 14)) 2 (wk 13))))))] H := hP
        have hD : va_D A [(h0, .inr (6, [.ref f1, .ref f2, .ref f3, .ref f4, .ref f5, .ref f6, .ref f7, .ref f8, .ref f9, .ref f10, .ref f11, .ref n1, .ref n2, .ref n3, .ref n4, .int sm, .int ln, .int tt, .int cm, .int dm, .int si, .int mu, .int th, .int lin, .int oc, .int od])), (f3, .inl (cF, 16, .inr (.inr (.inl wk)))), (f5, .inl (cF, 16, .inr (.inr (.inl (a_cp wk yd 16))))), (f7, .inl (cF, 4, .inr (.inr (.inl (vf_upd (vf_upd (vf_upd mm2 0 (wk 15)) 1 (wk 14)) 2 (wk 13))))))] := hD
        refine lv_iinc (v := 3) (lv' := [(2, .int 3), (1, .int 0), (0, .ref h0)]) hx hb dMod_keep_89 hl (k := 0) rfl (by decide) (by decide) rfl (fun ls hl => ?_)
        refine lv_goto (tgt := 47) hx hb dMod_keep_92 (by decide) ?_
        refine lv_iload_n hx hb dMod_keep_47 rfl (lv_at hl 0 rfl) ?_
        refine lv_iconst (v := 4) hx hb dMod_keep_48 (by decide) ?_
        refine lv_icmp_ge (tgt := 95) hx hb dMod_keep_49 (by decide) (fun c9 => absurd c9 (by decide)) (fun _ => ?_)
        refine lv_iload_n hx hb dMod_keep_52 rfl (lv_at hl 1 rfl) ?_
        refine lv_if_eq (tgt := 74) hx hb dMod_keep_53 (by decide) (fun _ => ?_) (fun c9 => absurd (by decide) c9)
        refine lv_aload_n hx hb dMod_keep_74 rfl (lv_at hl 2 rfl) ?_
        refine va_get (D := D) (ci := 6) (v := .ref f7) hx hb ht inMod hown hK hP 0 rfl rfl 6 (by decide) (ht _ kf_Mod_28) (fun _ h9 => h9) rfl dMod_keep_75 ?_
        refine lv_iload_n hx hb dMod_keep_78 rfl (lv_at hl 0 rfl) ?_
        refine lv_aload_n hx hb dMod_keep_79 rfl (lv_at hl 2 rfl) ?_
        refine va_get (D := D) (ci := 6) (v := .ref f3) hx hb ht inMod hown hK hP 0 rfl rfl 2 (by decide) (ht _ kf_Mod_16) (fun _ h9 => h9) rfl dMod_keep_80 ?_
        refine lv_bipush (v := 15) hx hb dMod_keep_83 (by decide) ?_
        refine lv_iload_n hx hb dMod_keep_85 rfl (lv_at hl 0 rfl) ?_
        refine k_isub (v := 12) hx hb dMod_keep_86 (by decide) ?_
        refine k_fald (j := 12) hx hb hK hP 1 0 rfl rfl (by unfold vp_in; decide) rfl dMod_keep_87 ?_
        refine k_fast (j := 3) (f1 := vf_upd (vf_upd (vf_upd (vf_upd mm2 0 (wk 15)) 1 (wk 14)) 2 (wk 13)) 3 (wk 12)) hx hb hK hP hD hS 3 0 rfl rfl (by unfold vp_in; decide) rfl rfl dMod_keep_88 (fun H locs hP hD hS => ?_)
        have hP : va_P D vwCl [(h0, .inr (6, [.ref f1, .ref f2, .ref f3, .ref f4, .ref f5, .ref f6, .ref f7, .ref f8, .ref f9, .ref f10, .ref f11, .ref n1, .ref n2, .ref n3, .ref n4, .int sm, .int ln, .int tt, .int cm, .int dm, .int si, .int mu, .int th, .int lin, .int oc, .int od])), (f3, .inl (cF, 16, .inr (.inr (.inl wk)))), (f5, .inl (cF, 16, .inr (.inr (.inl (a_cp wk yd 16))))), (f7, .inl (cF, 4, .inr (.inr (.inl (vf_upd (vf_upd (vf_upd (vf_upd mm2 0 (wk 15)) 1 (wk 14)) 2 (wk 13)) 3 (wk 12))))))] H := hP
        have hD : va_D A [(h0, .inr (6, [.ref f1, .ref f2, .ref f3, .ref f4, .ref f5, .ref f6, .ref f7, .ref f8, .ref f9, .ref f10, .ref f11, .ref n1, .ref n2, .ref n3, .ref n4, .int sm, .int ln, .int tt, .int cm, .int dm, .int si, .int mu, .int th, .int lin, .int oc, .int od])), (f3, .inl (cF, 16, .inr (.inr (.inl wk)))), (f5, .inl (cF, 16, .inr (.inr (.inl (a_cp wk yd 16))))), (f7, .inl (cF, 4, .inr (.inr (.inl (vf_upd (vf_upd (vf_upd (vf_upd mm2 0 (wk 15)) 1 (wk 14)) 2 (wk 13)) 3 (wk 12))))))] := hD
        refine lv_iinc (v := 4) (lv' := [(2, .int 4), (1, .int 0), (0, .ref h0)]) hx hb dMod_keep_89 hl (k := 0) rfl (by decide) (by decide) rfl (fun ls hl => ?_)
        refine lv_goto (tgt := 47) hx hb dMod_keep_92 (by decide) ?_
        refine lv_iload_n hx hb dMod_keep_47 rfl (lv_at hl 0 rfl) ?_
        refine lv_iconst (v := 4) hx hb dMod_keep_48 (by decide) ?_
        refine lv_icmp_ge (tgt := 95) hx hb dMod_keep_49 (by decide) (fun _ => ?_) (fun c9 => absurd (by decide) c9)
        have hP := hP.sub (ws' := [(h0, .inr (6, [.ref f1, .ref f2, .ref f3, .ref f4, .ref f5, .ref f6, .ref f7, .ref f8, .ref f9, .ref f10, .ref f11, .ref n1, .ref n2, .ref n3, .ref n4, .int sm, .int ln, .int tt, .int cm, .int dm, .int si, .int mu, .int th, .int lin, .int oc, .int od])), (f3, .inl (cF, 16, .inr (.inr (.inl wk)))), (f5, .inl (cF, 16, .inr (.inr (.inl (a_cp wk yd 16))))), (f7, .inl (cF, 4, .inr (.inr (.inl (vf_upd (vf_upd (vf_upd (vf_upd mm2 0 (wk 15)) 1 (wk 14)) 2 (wk 13)) 3 (wk 12))))))]) [0, 1, 2, 3] rfl
        have hD := hD.sub (ws' := [(h0, .inr (6, [.ref f1, .ref f2, .ref f3, .ref f4, .ref f5, .ref f6, .ref f7, .ref f8, .ref f9, .ref f10, .ref f11, .ref n1, .ref n2, .ref n3, .ref n4, .int sm, .int ln, .int tt, .int cm, .int dm, .int si, .int mu, .int th, .int lin, .int oc, .int od])), (f3, .inl (cF, 16, .inr (.inr (.inl wk)))), (f5, .inl (cF, 16, .inr (.inr (.inl (a_cp wk yd 16))))), (f7, .inl (cF, 4, .inr (.inr (.inl (vf_upd (vf_upd (vf_upd (vf_upd mm2 0 (wk 15)) 1 (wk 14)) 2 (wk 13)) 3 (wk 12))))))]) [0, 1, 2, 3] (by decide) rfl
        exact e_v () hx hb hr hlk hK hP hD hS rfl trivial dMod_keep_95
      · exact absurd (by decide) c1
    | succ n ih =>
      intro i hi H locs hP hD hS ls hl
      have hi1 : i < 16 := by omega
      refine lv_iload_n hx hb dMod_keep_2 rfl (lv_at hl 0 rfl) ?_
      refine lv_bipush (v := 16) hx hb dMod_keep_3 (by decide) ?_
      refine lv_icmp_ge (tgt := 45) hx hb dMod_keep_5 (by decide) (fun c11 => ?_) (fun c11 => ?_)
      · exact absurd c11 (lt_up (N := 16) (by decide) hi1 (by decide))
      · refine lv_iload_n hx hb dMod_keep_8 rfl (lv_at hl 1 rfl) ?_
        refine lv_if_eq (tgt := 27) hx hb dMod_keep_9 (by decide) (fun _ => ?_) (fun c9 => absurd (by decide) c9)
        refine lv_aload_n hx hb dMod_keep_27 rfl (lv_at hl 2 rfl) ?_
        refine va_get (D := D) (ci := 6) (v := .ref f5) hx hb ht inMod hown hK hP 0 rfl rfl 4 (by decide) (ht _ kf_Mod_22) (fun _ h9 => h9) rfl dMod_keep_28 ?_
        refine lv_iload_n hx hb dMod_keep_31 rfl (lv_at hl 0 rfl) ?_
        refine lv_aload_n hx hb dMod_keep_32 rfl (lv_at hl 2 rfl) ?_
        refine va_get (D := D) (ci := 6) (v := .ref f3) hx hb ht inMod hown hK hP 0 rfl rfl 2 (by decide) (ht _ kf_Mod_16) (fun _ h9 => h9) rfl dMod_keep_33 ?_
        refine lv_iload_n hx hb dMod_keep_36 rfl (lv_at hl 0 rfl) ?_
        refine k_fald (j := i) hx hb hK hP 1 0 rfl rfl (vp_in_nI (by omega) (by decide)) (nI_clamp (by omega)) dMod_keep_37 ?_
        refine k_fast (j := i) (f1 := a_cp wk yd (i + 1)) hx hb hK hP hD hS 2 0 rfl rfl (vp_in_nI (by omega) (by decide)) (nI_clamp (by omega)) (a_cp_s wk yd i) dMod_keep_38 (fun H locs hP hD hS => ?_)
        have hP : va_P D vwCl [(h0, .inr (6, [.ref f1, .ref f2, .ref f3, .ref f4, .ref f5, .ref f6, .ref f7, .ref f8, .ref f9, .ref f10, .ref f11, .ref n1, .ref n2, .ref n3, .ref n4, .int sm, .int ln, .int tt, .int cm, .int dm, .int si, .int mu, .int th, .int lin, .int oc, .int od])), (f3, .inl (cF, 16, .inr (.inr (.inl wk)))), (f5, .inl (cF, 16, .inr (.inr (.inl (a_cp wk yd (i + 1)))))), (f7, .inl (cF, 4, .inr (.inr (.inl mm2))))] H := hP
        have hD : va_D A [(h0, .inr (6, [.ref f1, .ref f2, .ref f3, .ref f4, .ref f5, .ref f6, .ref f7, .ref f8, .ref f9, .ref f10, .ref f11, .ref n1, .ref n2, .ref n3, .ref n4, .int sm, .int ln, .int tt, .int cm, .int dm, .int si, .int mu, .int th, .int lin, .int oc, .int od])), (f3, .inl (cF, 16, .inr (.inr (.inl wk)))), (f5, .inl (cF, 16, .inr (.inr (.inl (a_cp wk yd (i + 1)))))), (f7, .inl (cF, 4, .inr (.inr (.inl mm2))))] := hD
        refine lv_iinc (v := nI (i + 1)) (lv' := [(2, .int (nI (i + 1))), (1, .int 0), (0, .ref h0)]) hx hb dMod_keep_39 hl (k := 0) rfl (nI_1 i) (by decide) rfl (fun ls hl => ?_)
        refine lv_goto (tgt := 2) hx hb dMod_keep_42 (by decide) ?_
        exact ih (i + 1) (by omega)  _ _ (hP.sub (ws' := [(h0, .inr (6, [.ref f1, .ref f2, .ref f3, .ref f4, .ref f5, .ref f6, .ref f7, .ref f8, .ref f9, .ref f10, .ref f11, .ref n1, .ref n2, .ref n3, .ref n4, .int sm, .int ln, .int tt, .int cm, .int dm, .int si, .int mu, .int th, .int lin, .int oc, .int od])), (f3, .inl (cF, 16, .inr (.inr (.inl wk)))), (f5, .inl (cF, 16, .inr (.inr (.inl (a_cp wk yd (i + 1)))))), (f7, .inl (cF, 4, .inr (.inr (.inl mm2))))]) [0, 1, 2, 3] rfl) (hD.sub (ws' := [(h0, .inr (6, [.ref f1, .ref f2, .ref f3, .ref f4, .ref f5, .ref f6, .ref f7, .ref f8, .ref f9, .ref f10, .ref f11, .ref n1, .ref n2, .ref n3, .ref n4, .int sm, .int ln, .int tt, .int cm, .int dm, .int si, .int mu, .int th, .int lin, .int oc, .int od])), (f3, .inl (cF, 16, .inr (.inr (.inl wk)))), (f5, .inl (cF, 16, .inr (.inr (.inl (a_cp wk yd (i + 1)))))), (f7, .inl (cF, 4, .inr (.inr (.inl mm2))))]) [0, 1, 2, 3] (by decide) rfl) hS ls (lv_sub hl [0, 1, 2] rfl)
  rw [← a_cp_0 wk yd] at hP hD
  exact loop 16 0 (by omega)  _ _ (hP.sub (ws' := [(h0, .inr (6, [.ref f1, .ref f2, .ref f3, .ref f4, .ref f5, .ref f6, .ref f7, .ref f8, .ref f9, .ref f10, .ref f11, .ref n1, .ref n2, .ref n3, .ref n4, .int sm, .int ln, .int tt, .int cm, .int dm, .int si, .int mu, .int th, .int lin, .int oc, .int od])), (f3, .inl (cF, 16, .inr (.inr (.inl wk)))), (f5, .inl (cF, 16, .inr (.inr (.inl (a_cp wk yd 0))))), (f7, .inl (cF, 4, .inr (.inr (.inl mm2))))]) [0, 1, 2, 3] rfl) (hD.sub (ws' := [(h0, .inr (6, [.ref f1, .ref f2, .ref f3, .ref f4, .ref f5, .ref f6, .ref f7, .ref f8, .ref f9, .ref f10, .ref f11, .ref n1, .ref n2, .ref n3, .ref n4, .int sm, .int ln, .int tt, .int cm, .int dm, .int si, .int mu, .int th, .int lin, .int oc, .int od])), (f3, .inl (cF, 16, .inr (.inr (.inl wk)))), (f5, .inl (cF, 16, .inr (.inr (.inl (a_cp wk yd 0))))), (f7, .inl (cF, 4, .inr (.inr (.inl mm2))))]) [0, 1, 2, 3] (by decide) rfl) hS ls (by have hl := lv_sub hl (l' := [(2, .int 0), (1, .int 0), (0, .ref h0)]) [0, 2, 1] rfl; try rw [show (0 : Int32) = nI 0 from (by decide)] at hl; exact hl)

set_option maxHeartbeats 4000000 in
set_option maxRecDepth 100000 in
theorem c_Mod_silence (l : Launch) (D : va_G) (cF cI : ClassId) (sz : Nat) (h0 f1 f2 f3 f4 f5 f6 f7 f8 f9 f10 f11 n1 n2 n3 n4 : Nat) (sm : Int32) (ln : Int32) (tt : Int32) (cm : Int32) (dm : Int32) (si : Int32) (mu : Int32) (th : Int32) (lin : Int32) (oc : Int32) (od : Int32) (wk : Nat → UInt32) : Met l yMod_silence (.code yMod_silence cMod_silence 2 none :: TB) ({ frames := 0, cells := 0, slots := 0, locals := 0 }) (va_Pc [.ref h0] (cPre D cF cI [(h0, .inr (6, [.ref f1, .ref f2, .ref f3, .ref f4, .ref f5, .ref f6, .ref f7, .ref f8, .ref f9, .ref f10, .ref f11, .ref n1, .ref n2, .ref n3, .ref n4, .int sm, .int ln, .int tt, .int cm, .int dm, .int si, .int mu, .int th, .int lin, .int oc, .int od])), (f3, .inl (cF, 16, .inr (.inr (.inl wk))))] sz)) (va_Qv (fun _ : Unit => True) (cB D cF cI (va_A [(h0, .inr (6, [.ref f1, .ref f2, .ref f3, .ref f4, .ref f5, .ref f6, .ref f7, .ref f8, .ref f9, .ref f10, .ref f11, .ref n1, .ref n2, .ref n3, .ref n4, .int sm, .int ln, .int tt, .int cm, .int dm, .int si, .int mu, .int th, .int lin, .int oc, .int od])), (f3, .inl (cF, 16, .inr (.inr (.inl wk))))] sz) (fun _ : Unit => [(h0, .inr (6, [.ref f1, .ref f2, .ref f3, .ref f4, .ref f5, .ref f6, .ref f7, .ref f8, .ref f9, .ref f10, .ref f11, .ref n1, .ref n2, .ref n3, .ref n4, .int sm, .int ln, .int tt, .int cm, .int dm, .int si, .int mu, .int th, .int lin, .int oc, .int od])), (f3, .inl (cF, 16, .inr (.inr (.inl (a_fill wk FP.fconst0 16)))))])) (va_A [(h0, .inr (6, [.ref f1, .ref f2, .ref f3, .ref f4, .ref f5, .ref f6, .ref f7, .ref f8, .ref f9, .ref f10, .ref f11, .ref n1, .ref n2, .ref n3, .ref n4, .int sm, .int ln, .int tt, .int cm, .int dm, .int si, .int mu, .int th, .int lin, .int oc, .int od])), (f3, .inl (cF, 16, .inr (.inr (.inl wk))))] sz)) 0 0 (va_A [(h0, .inr (6, [.ref f1, .ref f2, .ref f3, .ref f4, .ref f5, .ref f6, .ref f7, .ref f8, .ref f9, .ref f10, .ref f11, .ref n1, .ref n2, .ref n3, .ref n4, .int sm, .int ln, .int tt, .int cm, .int dm, .int si, .int mu, .int th, .int lin, .int oc, .int od])), (f3, .inl (cF, 16, .inr (.inr (.inl wk))))] sz) := by
  refine c_ofW (own := RMod) (by decide) rfl (fun p e s m below meth c hsz hx hb hr hml hown ht hlk hin hP hK hD hmb => ?_)
  subst hsz
  generalize hAe : va_A [(h0, .inr (6, [.ref f1, .ref f2, .ref f3, .ref f4, .ref f5, .ref f6, .ref f7, .ref f8, .ref f9, .ref f10, .ref f11, .ref n1, .ref n2, .ref n3, .ref n4, .int sm, .int ln, .int tt, .int cm, .int dm, .int si, .int mu, .int th, .int lin, .int oc, .int od])), (f3, .inl (cF, 16, .inr (.inr (.inl wk))))] s.heap.size = A at hD ⊢
  have hA : ∀ q : Nat, s.heap.size ≤ q → A q := fun q h => by rw [← hAe]; exact Or.inr h
  have hS : va_S A s.heap s.heap [] := va_S.rf
  have hl := lv_entry ([.ref h0]) (n := 2) (Nat.le_of_ble_eq_true rfl)
  rw [lg_entry_eq]
  generalize (lg_sl ([.ref h0]) ++ List.replicate (2 - (lg_sl ([.ref h0])).length) Slot.unset).toArray = ls at hl ⊢
  have hl : lv_has ls 2 [(0, .ref h0)] := hl
  refine lv_iconst (v := 0) hx hb dMod_silence_0 (by decide) ?_
  refine lv_istore_n (lv' := [(1, .int 0), (0, .ref h0)]) hx hb dMod_silence_1 rfl hl (by decide) rfl (fun ls hl => ?_)
  have loop : ∀ (n i : Nat), i + n = 16 → ∀ (H : Heap) (locs : List Loc), va_P D vwCl [(h0, .inr (6, [.ref f1, .ref f2, .ref f3, .ref f4, .ref f5, .ref f6, .ref f7, .ref f8, .ref f9, .ref f10, .ref f11, .ref n1, .ref n2, .ref n3, .ref n4, .int sm, .int ln, .int tt, .int cm, .int dm, .int si, .int mu, .int th, .int lin, .int oc, .int od])), (f3, .inl (cF, 16, .inr (.inr (.inl (a_fill wk FP.fconst0 i)))))] H → va_D A [(h0, .inr (6, [.ref f1, .ref f2, .ref f3, .ref f4, .ref f5, .ref f6, .ref f7, .ref f8, .ref f9, .ref f10, .ref f11, .ref n1, .ref n2, .ref n3, .ref n4, .int sm, .int ln, .int tt, .int cm, .int dm, .int si, .int mu, .int th, .int lin, .int oc, .int od])), (f3, .inl (cF, 16, .inr (.inr (.inl (a_fill wk FP.fconst0 i)))))] → va_S A s.heap H locs → ∀ (ls : Array Slot), lv_has ls 2 [(1, .int (nI i)), (0, .ref h0)] → W p l e ({ frames := 0, cells := 0, slots := 0, locals := 0 } : Room) s m ([.ref h0] : List Value).toArray below meth c H locs 0 0 (MQ below (va_Qv (fun _ : Unit => True) (cB D cF cI A (fun _ : Unit => [(h0, .inr (6, [.ref f1, .ref f2, .ref f3, .ref f4, .ref f5, .ref f6, .ref f7, .ref f8, .ref f9, .ref f10, .ref f11, .ref n1, .ref n2, .ref n3, .ref n4, .int sm, .int ln, .int tt, .int cm, .int dm, .int si, .int mu, .int th, .int lin, .int oc, .int od])), (f3, .inl (cF, 16, .inr (.inr (.inl (a_fill wk FP.fconst0 16)))))])) A) ([.ref h0] : List Value).toArray s 0 0 A) (F0 m 2 ls []) := by
    intro n
    induction n with
    | zero =>
      intro i hi H locs hP hD hS ls hl
      obtain rfl : 16 = i := by omega
      refine lv_iload_n hx hb dMod_silence_2 rfl (lv_at hl 0 rfl) ?_
      refine lv_bipush (v := 16) hx hb dMod_silence_3 (by decide) ?_
      refine lv_icmp_ge (tgt := 21) hx hb dMod_silence_5 (by decide) (fun c1 => ?_) (fun c1 => ?_)
      · have hP := hP.sub (ws' := [(h0, .inr (6, [.ref f1, .ref f2, .ref f3, .ref f4, .ref f5, .ref f6, .ref f7, .ref f8, .ref f9, .ref f10, .ref f11, .ref n1, .ref n2, .ref n3, .ref n4, .int sm, .int ln, .int tt, .int cm, .int dm, .int si, .int mu, .int th, .int lin, .int oc, .int od])), (f3, .inl (cF, 16, .inr (.inr (.inl (a_fill wk FP.fconst0 16)))))]) [0, 1] rfl
        have hD := hD.sub (ws' := [(h0, .inr (6, [.ref f1, .ref f2, .ref f3, .ref f4, .ref f5, .ref f6, .ref f7, .ref f8, .ref f9, .ref f10, .ref f11, .ref n1, .ref n2, .ref n3, .ref n4, .int sm, .int ln, .int tt, .int cm, .int dm, .int si, .int mu, .int th, .int lin, .int oc, .int od])), (f3, .inl (cF, 16, .inr (.inr (.inl (a_fill wk FP.fconst0 16)))))]) [0, 1] (by decide) rfl
        exact e_v () hx hb hr hlk hK hP hD hS rfl trivial dMod_silence_21
      · exact absurd (by decide) c1
    | succ n ih =>
      intro i hi H locs hP hD hS ls hl
      have hi1 : i < 16 := by omega
      refine lv_iload_n hx hb dMod_silence_2 rfl (lv_at hl 0 rfl) ?_
      refine lv_bipush (v := 16) hx hb dMod_silence_3 (by decide) ?_
      refine lv_icmp_ge (tgt := 21) hx hb dMod_silence_5 (by decide) (fun c2 => ?_) (fun c2 => ?_)
      · exact absurd c2 (lt_up (N := 16) (by decide) hi1 (by decide))
      · refine lv_aload_n hx hb dMod_silence_8 rfl (lv_at hl 1 rfl) ?_
        refine va_get (D := D) (ci := 6) (v := .ref f3) hx hb ht inMod hown hK hP 0 rfl rfl 2 (by decide) (ht _ kf_Mod_16) (fun _ h9 => h9) rfl dMod_silence_9 ?_
        refine lv_iload_n hx hb dMod_silence_12 rfl (lv_at hl 0 rfl) ?_
        refine lv_fconst0 hx hb dMod_silence_13 ?_
        refine k_fast (j := i) (f1 := a_fill wk FP.fconst0 (i + 1)) hx hb hK hP hD hS 1 0 rfl rfl (vp_in_nI (by omega) (by decide)) (nI_clamp (by omega)) (a_fill_s wk FP.fconst0 i) dMod_silence_14 (fun H locs hP hD hS => ?_)
        have hP : va_P D vwCl [(h0, .inr (6, [.ref f1, .ref f2, .ref f3, .ref f4, .ref f5, .ref f6, .ref f7, .ref f8, .ref f9, .ref f10, .ref f11, .ref n1, .ref n2, .ref n3, .ref n4, .int sm, .int ln, .int tt, .int cm, .int dm, .int si, .int mu, .int th, .int lin, .int oc, .int od])), (f3, .inl (cF, 16, .inr (.inr (.inl (a_fill wk FP.fconst0 (i + 1))))))] H := hP
        have hD : va_D A [(h0, .inr (6, [.ref f1, .ref f2, .ref f3, .ref f4, .ref f5, .ref f6, .ref f7, .ref f8, .ref f9, .ref f10, .ref f11, .ref n1, .ref n2, .ref n3, .ref n4, .int sm, .int ln, .int tt, .int cm, .int dm, .int si, .int mu, .int th, .int lin, .int oc, .int od])), (f3, .inl (cF, 16, .inr (.inr (.inl (a_fill wk FP.fconst0 (i + 1))))))] := hD
        refine lv_iinc (v := nI (i + 1)) (lv' := [(1, .int (nI (i + 1))), (0, .ref h0)]) hx hb dMod_silence_15 hl (k := 0) rfl (nI_1 i) (by decide) rfl (fun ls hl => ?_)
        refine lv_goto (tgt := 2) hx hb dMod_silence_18 (by decide) ?_
        exact ih (i + 1) (by omega)  _ _ (hP.sub (ws' := [(h0, .inr (6, [.ref f1, .ref f2, .ref f3, .ref f4, .ref f5, .ref f6, .ref f7, .ref f8, .ref f9, .ref f10, .ref f11, .ref n1, .ref n2, .ref n3, .ref n4, .int sm, .int ln, .int tt, .int cm, .int dm, .int si, .int mu, .int th, .int lin, .int oc, .int od])), (f3, .inl (cF, 16, .inr (.inr (.inl (a_fill wk FP.fconst0 (i + 1))))))]) [0, 1] rfl) (hD.sub (ws' := [(h0, .inr (6, [.ref f1, .ref f2, .ref f3, .ref f4, .ref f5, .ref f6, .ref f7, .ref f8, .ref f9, .ref f10, .ref f11, .ref n1, .ref n2, .ref n3, .ref n4, .int sm, .int ln, .int tt, .int cm, .int dm, .int si, .int mu, .int th, .int lin, .int oc, .int od])), (f3, .inl (cF, 16, .inr (.inr (.inl (a_fill wk FP.fconst0 (i + 1))))))]) [0, 1] (by decide) rfl) hS ls (lv_sub hl [0, 1] rfl)
  rw [← a_fill_0 wk FP.fconst0] at hP hD
  exact loop 16 0 (by omega)  _ _ (hP.sub (ws' := [(h0, .inr (6, [.ref f1, .ref f2, .ref f3, .ref f4, .ref f5, .ref f6, .ref f7, .ref f8, .ref f9, .ref f10, .ref f11, .ref n1, .ref n2, .ref n3, .ref n4, .int sm, .int ln, .int tt, .int cm, .int dm, .int si, .int mu, .int th, .int lin, .int oc, .int od])), (f3, .inl (cF, 16, .inr (.inr (.inl (a_fill wk FP.fconst0 0)))))]) [0, 1] rfl) (hD.sub (ws' := [(h0, .inr (6, [.ref f1, .ref f2, .ref f3, .ref f4, .ref f5, .ref f6, .ref f7, .ref f8, .ref f9, .ref f10, .ref f11, .ref n1, .ref n2, .ref n3, .ref n4, .int sm, .int ln, .int tt, .int cm, .int dm, .int si, .int mu, .int th, .int lin, .int oc, .int od])), (f3, .inl (cF, 16, .inr (.inr (.inl (a_fill wk FP.fconst0 0)))))]) [0, 1] (by decide) rfl) hS ls (by have hl := lv_sub hl (l' := [(1, .int 0), (0, .ref h0)]) [0, 1] rfl; try rw [show (0 : Int32) = nI 0 from (by decide)] at hl; exact hl)

set_option maxHeartbeats 4000000 in
set_option maxRecDepth 100000 in
theorem c_Mod_write (l : Launch) (D : va_G) (cF cI : ClassId) (sz : Nat) (h0 f1 f2 f3 f4 f5 f6 f7 f8 f9 f10 f11 n1 n2 n3 n4 : Nat) (sm : Int32) (tt : Int32) (cm : Int32) (dm : Int32) (si : Int32) (mu : Int32) (th : Int32) (lin : Int32) (oc : Int32) (od : Int32) (z : Nat) (f : Nat → Int32) (b : Int32) (hz : z < 120) : Met l yMod_write (.code yMod_write cMod_write 2 none :: TB) ({ frames := 0, cells := 0, slots := 0, locals := 0 }) (va_Pc [.ref h0, .int b] (cPre D cF cI [(h0, .inr (6, [.ref f1, .ref f2, .ref f3, .ref f4, .ref f5, .ref f6, .ref f7, .ref f8, .ref f9, .ref f10, .ref f11, .ref n1, .ref n2, .ref n3, .ref n4, .int sm, .int (nI z), .int tt, .int cm, .int dm, .int si, .int mu, .int th, .int lin, .int oc, .int od])), (n1, .inl (cI, 120, .inl f))] sz)) (va_Qv (fun _ : Unit => True) (cB D cF cI (va_A [(h0, .inr (6, [.ref f1, .ref f2, .ref f3, .ref f4, .ref f5, .ref f6, .ref f7, .ref f8, .ref f9, .ref f10, .ref f11, .ref n1, .ref n2, .ref n3, .ref n4, .int sm, .int (nI z), .int tt, .int cm, .int dm, .int si, .int mu, .int th, .int lin, .int oc, .int od])), (n1, .inl (cI, 120, .inl f))] sz) (fun _ : Unit => [(h0, .inr (6, [.ref f1, .ref f2, .ref f3, .ref f4, .ref f5, .ref f6, .ref f7, .ref f8, .ref f9, .ref f10, .ref f11, .ref n1, .ref n2, .ref n3, .ref n4, .int sm, .int (nI (z + 1)), .int tt, .int cm, .int dm, .int si, .int mu, .int th, .int lin, .int oc, .int od])), (n1, .inl (cI, 120, .inl (upd f z b)))])) (va_A [(h0, .inr (6, [.ref f1, .ref f2, .ref f3, .ref f4, .ref f5, .ref f6, .ref f7, .ref f8, .ref f9, .ref f10, .ref f11, .ref n1, .ref n2, .ref n3, .ref n4, .int sm, .int (nI z), .int tt, .int cm, .int dm, .int si, .int mu, .int th, .int lin, .int oc, .int od])), (n1, .inl (cI, 120, .inl f))] sz)) 0 0 (va_A [(h0, .inr (6, [.ref f1, .ref f2, .ref f3, .ref f4, .ref f5, .ref f6, .ref f7, .ref f8, .ref f9, .ref f10, .ref f11, .ref n1, .ref n2, .ref n3, .ref n4, .int sm, .int (nI z), .int tt, .int cm, .int dm, .int si, .int mu, .int th, .int lin, .int oc, .int od])), (n1, .inl (cI, 120, .inl f))] sz) := by
  refine c_ofW (own := RMod) (by decide) rfl (fun p e s m below meth c hsz hx hb hr hml hown ht hlk hin hP hK hD hmb => ?_)
  subst hsz
  generalize hAe : va_A [(h0, .inr (6, [.ref f1, .ref f2, .ref f3, .ref f4, .ref f5, .ref f6, .ref f7, .ref f8, .ref f9, .ref f10, .ref f11, .ref n1, .ref n2, .ref n3, .ref n4, .int sm, .int (nI z), .int tt, .int cm, .int dm, .int si, .int mu, .int th, .int lin, .int oc, .int od])), (n1, .inl (cI, 120, .inl f))] s.heap.size = A at hD ⊢
  have hA : ∀ q : Nat, s.heap.size ≤ q → A q := fun q h => by rw [← hAe]; exact Or.inr h
  have hS : va_S A s.heap s.heap [] := va_S.rf
  have hl := lv_entry ([.ref h0, .int b]) (n := 2) (Nat.le_of_ble_eq_true rfl)
  rw [lg_entry_eq]
  generalize (lg_sl ([.ref h0, .int b]) ++ List.replicate (2 - (lg_sl ([.ref h0, .int b])).length) Slot.unset).toArray = ls at hl ⊢
  have hl : lv_has ls 2 [(0, .ref h0), (1, .int b)] := hl
  refine lv_aload_n hx hb dMod_write_0 rfl (lv_at hl 0 rfl) ?_
  refine va_get (D := D) (ci := 6) (v := .ref n1) hx hb ht inMod hown hK hP 0 rfl rfl 11 (by decide) (ht _ kf_Mod_43) (fun _ h9 => h9) rfl dMod_write_1 ?_
  refine lv_aload_n hx hb dMod_write_4 rfl (lv_at hl 0 rfl) ?_
  refine va_get (D := D) (ci := 6) (v := .int (nI z)) hx hb ht inMod hown hK hP 0 rfl rfl 16 (by decide) (ht _ kf_Mod_104) (fun _ h9 => h9) rfl dMod_write_5 ?_
  refine lv_iload_n hx hb dMod_write_8 rfl (lv_at hl 1 rfl) ?_
  refine k_iast (j := z) (f1 := upd f z b) hx hb hK hP hD hS 1 1 rfl rfl (vp_in_nI (by omega) (by decide)) (nI_clamp (by omega)) rfl dMod_write_9 (fun H locs hP hD hS => ?_)
  have hP : va_P D vwCl [(h0, .inr (6, [.ref f1, .ref f2, .ref f3, .ref f4, .ref f5, .ref f6, .ref f7, .ref f8, .ref f9, .ref f10, .ref f11, .ref n1, .ref n2, .ref n3, .ref n4, .int sm, .int (nI z), .int tt, .int cm, .int dm, .int si, .int mu, .int th, .int lin, .int oc, .int od])), (n1, .inl (cI, 120, .inl (upd f z b)))] H := hP
  have hD : va_D A [(h0, .inr (6, [.ref f1, .ref f2, .ref f3, .ref f4, .ref f5, .ref f6, .ref f7, .ref f8, .ref f9, .ref f10, .ref f11, .ref n1, .ref n2, .ref n3, .ref n4, .int sm, .int (nI z), .int tt, .int cm, .int dm, .int si, .int mu, .int th, .int lin, .int oc, .int od])), (n1, .inl (cI, 120, .inl (upd f z b)))] := hD
  refine lv_aload_n hx hb dMod_write_10 rfl (lv_at hl 0 rfl) ?_
  refine lv_dup hx hb dMod_write_11 rfl ?_
  refine va_get (D := D) (ci := 6) (v := .int (nI z)) hx hb ht inMod hown hK hP 0 rfl rfl 16 (by decide) (ht _ kf_Mod_104) (fun _ h9 => h9) rfl dMod_write_12 ?_
  refine lv_iconst (v := 1) hx hb dMod_write_15 (by decide) ?_
  refine k_iadd (v := nI (z + 1)) hx hb dMod_write_16 (nI_1 z) ?_
  refine va_put (D := D) (ci := 6) (v := .int (nI (z + 1))) (ty := .int) hx hb ht inMod tMod tMod_ok nMod hown hK hP hD hS 0 rfl rfl 16 (by decide) (ht _ kf_Mod_104) (fun _ h9 => h9) rfl (by decide +kernel) rfl rfl (Nat.le_of_ble_eq_true rfl) dMod_write_17 (fun H locs hP hD hS => ?_)
  have hP : va_P D vwCl [(h0, .inr (6, [.ref f1, .ref f2, .ref f3, .ref f4, .ref f5, .ref f6, .ref f7, .ref f8, .ref f9, .ref f10, .ref f11, .ref n1, .ref n2, .ref n3, .ref n4, .int sm, .int (nI (z + 1)), .int tt, .int cm, .int dm, .int si, .int mu, .int th, .int lin, .int oc, .int od])), (n1, .inl (cI, 120, .inl (upd f z b)))] H := hP
  have hD : va_D A [(h0, .inr (6, [.ref f1, .ref f2, .ref f3, .ref f4, .ref f5, .ref f6, .ref f7, .ref f8, .ref f9, .ref f10, .ref f11, .ref n1, .ref n2, .ref n3, .ref n4, .int sm, .int (nI (z + 1)), .int tt, .int cm, .int dm, .int si, .int mu, .int th, .int lin, .int oc, .int od])), (n1, .inl (cI, 120, .inl (upd f z b)))] := hD
  have hP := hP.sub (ws' := [(h0, .inr (6, [.ref f1, .ref f2, .ref f3, .ref f4, .ref f5, .ref f6, .ref f7, .ref f8, .ref f9, .ref f10, .ref f11, .ref n1, .ref n2, .ref n3, .ref n4, .int sm, .int (nI (z + 1)), .int tt, .int cm, .int dm, .int si, .int mu, .int th, .int lin, .int oc, .int od])), (n1, .inl (cI, 120, .inl (upd f z b)))]) [0, 1] rfl
  have hD := hD.sub (ws' := [(h0, .inr (6, [.ref f1, .ref f2, .ref f3, .ref f4, .ref f5, .ref f6, .ref f7, .ref f8, .ref f9, .ref f10, .ref f11, .ref n1, .ref n2, .ref n3, .ref n4, .int sm, .int (nI (z + 1)), .int tt, .int cm, .int dm, .int si, .int mu, .int th, .int lin, .int oc, .int od])), (n1, .inl (cI, 120, .inl (upd f z b)))]) [0, 1] (by decide) rfl
  exact e_v () hx hb hr hlk hK hP hD hS rfl trivial dMod_write_20
