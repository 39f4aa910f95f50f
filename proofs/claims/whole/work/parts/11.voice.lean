/-! VOICE AND PACKET -/
def f_pred (ww mm : Nat → UInt32) : UInt32 := FP.fadd (FP.fadd (FP.fadd (FP.fadd FP.fconst0 (FP.fmul (ww 1) (mm 0))) (FP.fmul (ww 2) (mm 1))) (FP.fmul (ww 3) (mm 2))) (FP.fmul (ww 4) (mm 3))
def f_shift (mm : Nat → UInt32) (y : UInt32) : Nat → UInt32 := vf_upd (vf_upd (vf_upd (vf_upd mm 3 (mm 2)) 2 (mm 1)) 1 (mm 0)) 0 y
def f_q (kk : Int32) : UInt32 := FP.fdiv (FP.i2f kk) 1098907648
def cOK (kk : Int32) : Prop := ∃ j : Nat, j < 31 ∧ kk = nI j - 15
theorem q_all : ∀ j : Nat, j < 31 → (f_q (nI j - 15)).toNat % 2 ^ 31 < 127 * 2 ^ 23 := by decide +kernel
theorem q_k {kk : Int32} (h : cOK kk) : fk 127 (f_q kk) := by obtain ⟨j, hj, rfl⟩ := h; exact q_all j hj
theorem q_n {kk : Int32} (h : cOK kk) : vf_n32 (FP.fdiv (FP.i2f kk) 1098907648) := fk_n (q_k h) (by decide)
def f_lev (i : Nat) (ww : Nat → UInt32) (q : UInt32) : Nat → UInt32 := fun j => if j = i then q else if 1 ≤ j ∧ j < i then FP.fsub (ww j) (FP.fmul q (ww (i - j))) else ww j
theorem lev_k {i K : Nat} {ww : Nat → UInt32} {q : UInt32} (hq : fk 127 q) (hw : ∀ j, 1 ≤ j → j < i → fk K (ww j)) (hK : 124 ≤ K) (hK2 : K ≤ 240) : ∀ j, 1 ≤ j → j < i + 1 → fk (K + 3) (f_lev i ww q j) := by
  intro j h1 h2
  unfold f_lev
  by_cases h : j = i
  · rw [if_pos h]; exact fk_mono hq (by omega)
  · rw [if_neg h, if_pos ⟨h1, by omega⟩]
    have e : 127 + K - 129 + 3 = K + 1 := by omega
    have hm := fk_mul hq (hw (i - j) (by omega) (by omega)) (by decide) (by omega)
    rw [e] at hm
    exact fk_sub (K := K + 1) (fk_mono (hw j h1 (by omega)) (by omega)) hm (by omega)
theorem tk_1 (ww : Nat → UInt32) (q : UInt32) : vf_upd ww 1 q = f_lev 1 ww q := by
  funext j; unfold vf_upd f_lev
  by_cases h : j = 1
  · rw [if_pos h, if_pos h]
  · rw [if_neg h, if_neg h, if_neg (by omega)]
theorem tk_2 (ww : Nat → UInt32) (q : UInt32) : vf_upd (vf_upd (vf_upd ww 1 (FP.fsub (ww 1) (FP.fmul q (ww 1)))) 1 (FP.fsub (ww 1) (FP.fmul q (ww 1)))) 2 q = f_lev 2 ww q := by
  funext j; unfold vf_upd f_lev
  by_cases h : j = 2
  · rw [if_pos h, if_pos h]
  · rw [if_neg h, if_neg h]
    by_cases h1 : j = 1
    · subst h1; rfl
    · rw [if_neg h1, if_neg h1, if_neg (by omega)]
theorem tk_3 (ww : Nat → UInt32) (q : UInt32) : vf_upd (vf_upd (vf_upd ww 1 (FP.fsub (ww 1) (FP.fmul q (ww 2)))) 2 (FP.fsub (ww 2) (FP.fmul q (ww 1)))) 3 q = f_lev 3 ww q := by
  funext j; unfold vf_upd f_lev
  by_cases h : j = 3
  · rw [if_pos h, if_pos h]
  · rw [if_neg h, if_neg h]
    by_cases h2 : j = 2
    · subst h2; rfl
    · by_cases h1 : j = 1
      · subst h1; rfl
      · rw [if_neg h2, if_neg h1, if_neg (by omega)]
theorem tk_4 (ww : Nat → UInt32) (q : UInt32) : vf_upd (vf_upd (vf_upd (vf_upd (vf_upd ww 1 (FP.fsub (ww 1) (FP.fmul q (ww 3)))) 3 (FP.fsub (ww 3) (FP.fmul q (ww 1)))) 2 (FP.fsub (ww 2) (FP.fmul q (ww 2)))) 2 (FP.fsub (ww 2) (FP.fmul q (ww 2)))) 4 q = f_lev 4 ww q := by
  funext j; unfold vf_upd f_lev
  by_cases h : j = 4
  · rw [if_pos h, if_pos h]
  · rw [if_neg h, if_neg h]
    by_cases h2 : j = 2
    · subst h2; rfl
    · by_cases h3 : j = 3
      · subst h3; rfl
      · by_cases h1 : j = 1
        · subst h1; rfl
        · rw [if_neg h2, if_neg h2, if_neg h3, if_neg h1, if_neg (by omega)]
def f_step (pl g : Int32) : UInt32 := if pl = 0 then FP.fdiv (FP.i2f (1 <<< (g &&& 31))) 1082130432 else FP.i2f (16 * g + 1)
theorem step_d (x : Int32) : fk 160 (FP.fdiv (FP.i2f x) 1082130432) := fk_div (K := 160) (L := 128) (Jvm.FP.Core.i2f_mag x) (show fg 128 1082130432 by unfold fg; decide) (show fk 255 1082130432 by unfold fk; decide) (by decide) (by decide)
theorem step_k (pl g : Int32) : fk 160 (f_step pl g) := by
  unfold f_step; split
  · exact step_d _
  · exact Jvm.FP.Core.i2f_mag _
/-- the step code: the least g from 15 - n on -/
def f_sc (pl : Int32) (most : UInt32) : Nat → Int32
  | 0 => 15
  | n + 1 => if 0 ≤ Op.cmpValue (FP.fcmp (FP.fmul 1077936128 (f_step pl (nI (14 - n)))) most) .g then nI (14 - n) else f_sc pl most n
theorem sc_t {pl : Int32} {most : UInt32} {n i : Nat} (hi : i + (n + 1) = 15) (h : 0 ≤ Op.cmpValue (FP.fcmp (FP.fmul 1077936128 (f_step pl (nI i))) most) .g) : f_sc pl most (n + 1) = nI i := by
  obtain rfl : i = 14 - n := by omega
  exact if_pos h
theorem sc_f {pl : Int32} {most : UInt32} {n i : Nat} (hi : i + (n + 1) = 15) (h : ¬ 0 ≤ Op.cmpValue (FP.fcmp (FP.fmul 1077936128 (f_step pl (nI i))) most) .g) : f_sc pl most (n + 1) = f_sc pl most n := by
  obtain rfl : i = 14 - n := by omega
  exact if_neg h
def i_max (x y : Int32) : Int32 := if x < y then y else x
def i_abs (x : Int32) : Int32 := if 0 ≤ x then x else 0 - x
def l_max (ll : Nat → Int32) : Nat → Int32
  | 0 => 0
  | n + 1 => i_max (l_max ll n) (i_abs (ll n))
def putL (f : Nat → Int32) (z : Nat) : List Int32 → (Nat → Int32)
  | [] => f
  | b :: bs => putL (upd f z b) (z + 1) bs
def i_sum (x : Int32) : List Int32 → Int32
  | [] => x
  | b :: bs => i_sum (x + b) bs
/-- the bytes of a packet but the last -/
def p_first (pl pg : Int32) : Int32 := 16 + pg + (if pl = 0 then 0 else 128)
def p_lev (ll : Nat → Int32) (j : Nat) : Int32 := 8 * (ll j - (-4)) + ll (j + 1) - (-4)
def p_mid (kc ll : Nat → Int32) : List Int32 := [kc 1 + 15, kc 2 + 15, kc 3 + 15, kc 4 + 15, p_lev ll 0, p_lev ll 2, p_lev ll 4, p_lev ll 6, p_lev ll 8, p_lev ll 10, p_lev ll 12, p_lev ll 14]
def p_all (pl pg : Int32) (kc ll : Nat → Int32) : List Int32 := p_first pl pg :: (p_mid kc ll ++ [i_sum (p_first pl pg) (p_mid kc ll) &&& 255])
def p_lo (b : Int32) : Int32 := b / 8 + (-4)
def p_hi (b : Int32) : Int32 := (b - b / 8 * 8) + (-4)
def p_rd (f : Nat → Int32) (rs rd : Int32) : List Int32 := [p_lo (r_next f rs rd 5), p_hi (r_next f rs rd 5), p_lo (r_next f rs rd 6), p_hi (r_next f rs rd 6), p_lo (r_next f rs rd 7), p_hi (r_next f rs rd 7), p_lo (r_next f rs rd 8), p_hi (r_next f rs rd 8), p_lo (r_next f rs rd 9), p_hi (r_next f rs rd 9), p_lo (r_next f rs rd 10), p_hi (r_next f rs rd 10), p_lo (r_next f rs rd 11), p_hi (r_next f rs rd 11), p_lo (r_next f rs rd 12), p_hi (r_next f rs rd 12)]
def f_lpc (ww : Nat → UInt32) (k1 k2 k3 k4 : Int32) : Nat → UInt32 := f_lev 4 (f_lev 3 (f_lev 2 (f_lev 1 ww (f_q k1)) (f_q k2)) (f_q k3)) (f_q k4)
theorem b_0 {ww : Nat → UInt32} : ∀ j, 1 ≤ j → j < 1 → fk 124 (ww j) := fun j h1 h2 => by omega

set_option maxHeartbeats 4000000 in
set_option maxRecDepth 100000 in
theorem c_Voi_init (l : Launch) (D : va_G) (cF cI : ClassId) (sz : Nat) (h0 : Nat) : Met l yVoi_init (.code yVoi_init cVoi_init 1 none :: TB) ({ frames := 1, cells := 2, slots := 20, locals := 13 }) (va_Pc [.ref h0] (cPre D cF cI [(h0, .inr (4, [.null, .null, .int 0]))] sz)) (va_Qv (fun _ : Nat × Nat => True) (cB D cF cI (va_A [(h0, .inr (4, [.null, .null, .int 0]))] sz) (fun u : Nat × Nat => [(h0, .inr (4, [.ref u.1, .ref u.2, .int 0])), (u.1, .inl (cF, 4, .inr (.inr (.inl (fun _ => 0))))), (u.2, .inl (cF, 16, .inr (.inr (.inl (fun _ => 0)))))])) (va_A [(h0, .inr (4, [.null, .null, .int 0]))] sz)) 2 20 (va_A [(h0, .inr (4, [.null, .null, .int 0]))] sz) := by
  refine c_ofW (own := RVoi) (by decide) rfl (fun p e s m below meth c hsz hx hb hr hml hown ht hlk hin hP hK hD hmb => ?_)
  subst hsz
  generalize hAe : va_A [(h0, .inr (4, [.null, .null, .int 0]))] s.heap.size = A at hD ⊢
  have hA : ∀ q : Nat, s.heap.size ≤ q → A q := fun q h => by rw [← hAe]; exact Or.inr h
  have hS : va_S A s.heap s.heap [] := va_S.rf
  have hl := lv_entry ([.ref h0]) (n := 1) (Nat.le_of_ble_eq_true rfl)
  rw [lg_entry_eq]
  generalize (lg_sl ([.ref h0]) ++ List.replicate (1 - (lg_sl ([.ref h0])).length) Slot.unset).toArray = ls at hl ⊢
  have hl : lv_has ls 1 [(0, .ref h0)] := hl
  refine lv_aload_n hx hb dVoi_init_0 rfl (lv_at hl 0 rfl) ?_
  refine W.objInit hx hb hown (ht _ km_Voi_3) (ht _ ki_objectInit) (ht _ kc_objectInit) rfl (by rw [hml]; exact hl.1) rfl dVoi_init_1 (Nat.le_of_ble_eq_true rfl) (Nat.le_of_ble_eq_true rfl) ?_
  refine W.eq (g2 := F0 m 4 ls []) rfl ?_
  refine lv_aload_n hx hb dVoi_init_4 rfl (lv_at hl 0 rfl) ?_
  refine lv_iconst (v := 4) hx hb dVoi_init_5 (by decide) ?_
  refine n_arr (ty := .float) (n := 4) (N := 4) (a0 := (4, .inr (.inr (.inl (fun _ => 0))))) 0 hx hb (ht _ ka_float) rfl hK hP hD hS hA (fun _ => rfl) (by decide) (by decide) (by decide) (Nat.le_of_ble_eq_true rfl) (Nat.le_of_ble_eq_true rfl) rfl dVoi_init_6 (fun q1 H hP hD hS => ?_)
  have hP : va_P D vwCl [(h0, .inr (4, [.null, .null, .int 0])), (q1, .inl (cF, 4, .inr (.inr (.inl (fun _ => 0)))))] H := hP
  have hD : va_D A [(h0, .inr (4, [.null, .null, .int 0])), (q1, .inl (cF, 4, .inr (.inr (.inl (fun _ => 0)))))] := hD
  refine va_putF (D := D) (ci := 4) (v := .ref q1) (ty := (.array (.float))) hx hb ht inVoi tVoi tVoi_ok nVoi hown hK hP hD hS 0 rfl rfl 0 (by decide) (ht _ kf_Voi_9) (fun _ h9 => h9) rfl hin rfl (by decide +kernel) rfl rfl (Nat.le_of_ble_eq_true rfl) dVoi_init_8 (fun H locs hP hD hS => ?_)
  have hP : va_P D vwCl [(h0, .inr (4, [.ref q1, .null, .int 0])), (q1, .inl (cF, 4, .inr (.inr (.inl (fun _ => 0)))))] H := hP
  have hD : va_D A [(h0, .inr (4, [.ref q1, .null, .int 0])), (q1, .inl (cF, 4, .inr (.inr (.inl (fun _ => 0)))))] := hD
  refine lv_aload_n hx hb dVoi_init_11 rfl (lv_at hl 0 rfl) ?_
  refine lv_bipush (v := 16) hx hb dVoi_init_12 (by decide) ?_
  refine n_arr (ty := .float) (n := 16) (N := 16) (a0 := (16, .inr (.inr (.inl (fun _ => 0))))) 0 hx hb (ht _ ka_float) rfl hK hP hD hS hA (fun _ => rfl) (by decide) (by decide) (by decide) (Nat.le_of_ble_eq_true rfl) (Nat.le_of_ble_eq_true rfl) rfl dVoi_init_14 (fun q2 H hP hD hS => ?_)
  have hP : va_P D vwCl [(h0, .inr (4, [.ref q1, .null, .int 0])), (q1, .inl (cF, 4, .inr (.inr (.inl (fun _ => 0))))), (q2, .inl (cF, 16, .inr (.inr (.inl (fun _ => 0)))))] H := hP
  have hD : va_D A [(h0, .inr (4, [.ref q1, .null, .int 0])), (q1, .inl (cF, 4, .inr (.inr (.inl (fun _ => 0))))), (q2, .inl (cF, 16, .inr (.inr (.inl (fun _ => 0)))))] := hD
  refine va_putF (D := D) (ci := 4) (v := .ref q2) (ty := (.array (.float))) hx hb ht inVoi tVoi tVoi_ok nVoi hown hK hP hD hS 0 rfl rfl 1 (by decide) (ht _ kf_Voi_15) (fun _ h9 => h9) rfl hin rfl (by decide +kernel) rfl rfl (Nat.le_of_ble_eq_true rfl) dVoi_init_16 (fun H locs hP hD hS => ?_)
  have hP : va_P D vwCl [(h0, .inr (4, [.ref q1, .ref q2, .int 0])), (q1, .inl (cF, 4, .inr (.inr (.inl (fun _ => 0))))), (q2, .inl (cF, 16, .inr (.inr (.inl (fun _ => 0)))))] H := hP
  have hD : va_D A [(h0, .inr (4, [.ref q1, .ref q2, .int 0])), (q1, .inl (cF, 4, .inr (.inr (.inl (fun _ => 0))))), (q2, .inl (cF, 16, .inr (.inr (.inl (fun _ => 0)))))] := hD
  have hP := hP.sub (ws' := [(h0, .inr (4, [.ref q1, .ref q2, .int 0])), (q1, .inl (cF, 4, .inr (.inr (.inl (fun _ => 0))))), (q2, .inl (cF, 16, .inr (.inr (.inl (fun _ => 0)))))]) [0, 1, 2] rfl
  have hD := hD.sub (ws' := [(h0, .inr (4, [.ref q1, .ref q2, .int 0])), (q1, .inl (cF, 4, .inr (.inr (.inl (fun _ => 0))))), (q2, .inl (cF, 16, .inr (.inr (.inl (fun _ => 0)))))]) [0, 1, 2] (by decide) rfl
  exact e_v (q1, q2) hx hb hr hlk hK hP hD hS rfl trivial dVoi_init_19

set_option maxHeartbeats 4000000 in
set_option maxRecDepth 100000 in
theorem c_Voi_fallSilent (l : Launch) (D : va_G) (cF cI : ClassId) (sz : Nat) (h0 h1 h2 : Nat) (mm : Nat → UInt32) (yy : Nat → UInt32) (sp : Int32) : Met l yVoi_fallSilent (.code yVoi_fallSilent cVoi_fallSilent 1 none :: TB) ({ frames := 1, cells := 0, slots := 0, locals := 23 }) (va_Pc [.ref h0] (cPre D cF cI [(h0, .inr (4, [.ref h1, .ref h2, .int sp])), (h1, .inl (cF, 4, .inr (.inr (.inl mm)))), (h2, .inl (cF, 16, .inr (.inr (.inl yy))))] sz)) (va_Qv (fun _ : Unit => True) (cB D cF cI (va_A [(h0, .inr (4, [.ref h1, .ref h2, .int sp])), (h1, .inl (cF, 4, .inr (.inr (.inl mm)))), (h2, .inl (cF, 16, .inr (.inr (.inl yy))))] sz) (fun _ : Unit => [(h0, .inr (4, [.ref h1, .ref h2, .int 1])), (h1, .inl (cF, 4, .inr (.inr (.inl (a_fill mm FP.fconst0 4))))), (h2, .inl (cF, 16, .inr (.inr (.inl (a_fill yy FP.fconst0 16)))))])) (va_A [(h0, .inr (4, [.ref h1, .ref h2, .int sp])), (h1, .inl (cF, 4, .inr (.inr (.inl mm)))), (h2, .inl (cF, 16, .inr (.inr (.inl yy))))] sz)) 0 0 (va_A [(h0, .inr (4, [.ref h1, .ref h2, .int sp])), (h1, .inl (cF, 4, .inr (.inr (.inl mm)))), (h2, .inl (cF, 16, .inr (.inr (.inl yy))))] sz) := by
  refine c_ofW (own := RVoi) (by decide) rfl (fun p e s m below meth c hsz hx hb hr hml hown ht hlk hin hP hK hD hmb => ?_)
  subst hsz
  generalize hAe : va_A [(h0, .inr (4, [.ref h1, .ref h2, .int sp])), (h1, .inl (cF, 4, .inr (.inr (.inl mm)))), (h2, .inl (cF, 16, .inr (.inr (.inl yy))))] s.heap.size = A at hD ⊢
  have hA : ∀ q : Nat, s.heap.size ≤ q → A q := fun q h => by rw [← hAe]; exact Or.inr h
  have hS : va_S A s.heap s.heap [] := va_S.rf
  have hl := lv_entry ([.ref h0]) (n := 1) (Nat.le_of_ble_eq_true rfl)
  rw [lg_entry_eq]
  generalize (lg_sl ([.ref h0]) ++ List.replicate (1 - (lg_sl ([.ref h0])).length) Slot.unset).toArray = ls at hl ⊢
  have hl : lv_has ls 1 [(0, .ref h0)] := hl
  refine lv_aload_n hx hb dVoi_fallSilent_0 rfl (lv_at hl 0 rfl) ?_
  refine va_get (D := D) (ci := 4) (v := .ref h1) hx hb ht inVoi hown hK hP 0 rfl rfl 0 (by decide) (ht _ kf_Voi_9) (fun _ h9 => h9) rfl dVoi_fallSilent_1 ?_
  refine lv_fconst0 hx hb dVoi_fallSilent_4 ?_
  refine q_v (wc := [(h1, .inl (cF, 4, .inr (.inr (.inl mm))))]) (wr := [(h0, .inr (4, [.ref h1, .ref h2, .int sp])), (h2, .inl (cF, 16, .inr (.inr (.inl yy))))]) [1] [0, 2] hK hP hD hS hA rfl rfl (by decide) (by decide) (va_runS (As := [.ref h1, .float FP.fconst0]) (rest := []) ⟨hx, hb, hml, hown, ht⟩ (c_Arr_fill_F l D cF cI s.heap.size h1 4 mm FP.fconst0 (by decide)) (va_cwS 2 ht (g_S km_Voi_25 ks_Arr_fill_F kI_Arr kc_Arr_fill_F) rfl rfl rfl (by decide +kernel) ⟨Nat.le_of_ble_eq_true rfl, Nat.le_of_ble_eq_true rfl⟩) (cPre_S hK hmb (hP.sub (ws' := [(h1, .inl (cF, 4, .inr (.inr (.inl mm))))]) [1] rfl) (hD.sub (ws' := [(h1, .inl (cF, 4, .inr (.inr (.inl mm))))]) [1] (by decide) rfl)) rfl rfl hl.1 rfl (lv_room (Nat.le_of_ble_eq_true rfl)) dVoi_fallSilent_5 ⟨Nat.le_of_ble_eq_true rfl, Nat.le_of_ble_eq_true rfl⟩) (fun u2 H locs w3 hP hD hS => ?_)
  have hP : va_P D vwCl [(h0, .inr (4, [.ref h1, .ref h2, .int sp])), (h2, .inl (cF, 16, .inr (.inr (.inl yy)))), (h1, .inl (cF, 4, .inr (.inr (.inl (a_fill mm FP.fconst0 4)))))] H := hP
  have hD : va_D A [(h0, .inr (4, [.ref h1, .ref h2, .int sp])), (h2, .inl (cF, 16, .inr (.inr (.inl yy)))), (h1, .inl (cF, 4, .inr (.inr (.inl (a_fill mm FP.fconst0 4)))))] := hD
  refine lv_aload_n hx hb dVoi_fallSilent_8 rfl (lv_at hl 0 rfl) ?_
  refine va_get (D := D) (ci := 4) (v := .ref h2) hx hb ht inVoi hown hK hP 0 rfl rfl 1 (by decide) (ht _ kf_Voi_15) (fun _ h9 => h9) rfl dVoi_fallSilent_9 ?_
  refine lv_fconst0 hx hb dVoi_fallSilent_12 ?_
  refine q_v (wc := [(h2, .inl (cF, 16, .inr (.inr (.inl yy))))]) (wr := [(h0, .inr (4, [.ref h1, .ref h2, .int sp])), (h1, .inl (cF, 4, .inr (.inr (.inl (a_fill mm FP.fconst0 4)))))]) [1] [0, 2] hK hP hD hS hA rfl rfl (by decide) (by decide) (va_runS (As := [.ref h2, .float FP.fconst0]) (rest := []) ⟨hx, hb, hml, hown, ht⟩ (c_Arr_fill_F l D cF cI H.size h2 16 yy FP.fconst0 (by decide)) (va_cwS 2 ht (g_S km_Voi_25 ks_Arr_fill_F kI_Arr kc_Arr_fill_F) rfl rfl rfl (by decide +kernel) ⟨Nat.le_of_ble_eq_true rfl, Nat.le_of_ble_eq_true rfl⟩) (cPre_S hK hmb (hP.sub (ws' := [(h2, .inl (cF, 16, .inr (.inr (.inl yy))))]) [1] rfl) (hD.sub (ws' := [(h2, .inl (cF, 16, .inr (.inr (.inl yy))))]) [1] (by decide) rfl)) rfl rfl hl.1 rfl (lv_room (Nat.le_of_ble_eq_true rfl)) dVoi_fallSilent_13 ⟨Nat.le_of_ble_eq_true rfl, Nat.le_of_ble_eq_true rfl⟩) (fun u5 H locs w6 hP hD hS => ?_)
  have hP : va_P D vwCl [(h0, .inr (4, [.ref h1, .ref h2, .int sp])), (h1, .inl (cF, 4, .inr (.inr (.inl (a_fill mm FP.fconst0 4))))), (h2, .inl (cF, 16, .inr (.inr (.inl (a_fill yy FP.fconst0 16)))))] H := hP
  have hD : va_D A [(h0, .inr (4, [.ref h1, .ref h2, .int sp])), (h1, .inl (cF, 4, .inr (.inr (.inl (a_fill mm FP.fconst0 4))))), (h2, .inl (cF, 16, .inr (.inr (.inl (a_fill yy FP.fconst0 16)))))] := hD
  refine lv_aload_n hx hb dVoi_fallSilent_16 rfl (lv_at hl 0 rfl) ?_
  refine lv_iconst (v := 1) hx hb dVoi_fallSilent_17 (by decide) ?_
  refine va_put (D := D) (ci := 4) (v := .int 1) (ty := .boolean) hx hb ht inVoi tVoi tVoi_ok nVoi hown hK hP hD hS 0 rfl rfl 2 (by decide) (ht _ kf_Voi_21) (fun _ h9 => h9) rfl (by decide +kernel) rfl rfl (Nat.le_of_ble_eq_true rfl) dVoi_fallSilent_18 (fun H locs hP hD hS => ?_)
  have hP : va_P D vwCl [(h0, .inr (4, [.ref h1, .ref h2, .int 1])), (h1, .inl (cF, 4, .inr (.inr (.inl (a_fill mm FP.fconst0 4))))), (h2, .inl (cF, 16, .inr (.inr (.inl (a_fill yy FP.fconst0 16)))))] H := hP
  have hD : va_D A [(h0, .inr (4, [.ref h1, .ref h2, .int 1])), (h1, .inl (cF, 4, .inr (.inr (.inl (a_fill mm FP.fconst0 4))))), (h2, .inl (cF, 16, .inr (.inr (.inl (a_fill yy FP.fconst0 16)))))] := hD
  have hP := hP.sub (ws' := [(h0, .inr (4, [.ref h1, .ref h2, .int 1])), (h1, .inl (cF, 4, .inr (.inr (.inl (a_fill mm FP.fconst0 4))))), (h2, .inl (cF, 16, .inr (.inr (.inl (a_fill yy FP.fconst0 16)))))]) [0, 1, 2] rfl
  have hD := hD.sub (ws' := [(h0, .inr (4, [.ref h1, .ref h2, .int 1])), (h1, .inl (cF, 4, .inr (.inr (.inl (a_fill mm FP.fconst0 4))))), (h2, .inl (cF, 16, .inr (.inr (.inl (a_fill yy FP.fconst0 16)))))]) [0, 1, 2] (by decide) rfl
  exact e_v () hx hb hr hlk hK hP hD hS rfl trivial dVoi_fallSilent_21

set_option maxHeartbeats 4000000 in
set_option maxRecDepth 100000 in
theorem c_Voi_forget (l : Launch) (D : va_G) (cF cI : ClassId) (sz : Nat) (h0 h1 h2 : Nat) (mm : Nat → UInt32) (yy : Nat → UInt32) (sp : Int32) : Met l yVoi_forget (.code yVoi_forget cVoi_forget 1 none :: TB) ({ frames := 2, cells := 0, slots := 0, locals := 43 }) (va_Pc [.ref h0] (cPre D cF cI [(h0, .inr (4, [.ref h1, .ref h2, .int sp])), (h1, .inl (cF, 4, .inr (.inr (.inl mm)))), (h2, .inl (cF, 16, .inr (.inr (.inl yy))))] sz)) (va_Qv (fun _ : Unit => True) (cB D cF cI (va_A [(h0, .inr (4, [.ref h1, .ref h2, .int sp])), (h1, .inl (cF, 4, .inr (.inr (.inl mm)))), (h2, .inl (cF, 16, .inr (.inr (.inl yy))))] sz) (fun _ : Unit => [(h0, .inr (4, [.ref h1, .ref h2, .int 0])), (h1, .inl (cF, 4, .inr (.inr (.inl (a_fill mm FP.fconst0 4))))), (h2, .inl (cF, 16, .inr (.inr (.inl (a_fill yy FP.fconst0 16)))))])) (va_A [(h0, .inr (4, [.ref h1, .ref h2, .int sp])), (h1, .inl (cF, 4, .inr (.inr (.inl mm)))), (h2, .inl (cF, 16, .inr (.inr (.inl yy))))] sz)) 0 0 (va_A [(h0, .inr (4, [.ref h1, .ref h2, .int sp])), (h1, .inl (cF, 4, .inr (.inr (.inl mm)))), (h2, .inl (cF, 16, .inr (.inr (.inl yy))))] sz) := by
  refine c_ofW (own := RVoi) (by decide) rfl (fun p e s m below meth c hsz hx hb hr hml hown ht hlk hin hP hK hD hmb => ?_)
  subst hsz
  generalize hAe : va_A [(h0, .inr (4, [.ref h1, .ref h2, .int sp])), (h1, .inl (cF, 4, .inr (.inr (.inl mm)))), (h2, .inl (cF, 16, .inr (.inr (.inl yy))))] s.heap.size = A at hD ⊢
  have hA : ∀ q : Nat, s.heap.size ≤ q → A q := fun q h => by rw [← hAe]; exact Or.inr h
  have hS : va_S A s.heap s.heap [] := va_S.rf
  have hl := lv_entry ([.ref h0]) (n := 1) (Nat.le_of_ble_eq_true rfl)
  rw [lg_entry_eq]
  generalize (lg_sl ([.ref h0]) ++ List.replicate (1 - (lg_sl ([.ref h0])).length) Slot.unset).toArray = ls at hl ⊢
  have hl : lv_has ls 1 [(0, .ref h0)] := hl
  refine lv_aload_n hx hb dVoi_forget_0 rfl (lv_at hl 0 rfl) ?_
  refine q_v (wc := [(h0, .inr (4, [.ref h1, .ref h2, .int sp])), (h1, .inl (cF, 4, .inr (.inr (.inl mm)))), (h2, .inl (cF, 16, .inr (.inr (.inl yy))))]) (wr := []) [0, 1, 2] [] hK hP hD hS hA rfl rfl (by decide) (by decide) (va_runV (As := []) (rest := []) ⟨hx, hb, hml, hown, ht⟩ (c_Voi_fallSilent l D cF cI s.heap.size h0 h1 h2 mm yy sp) (cwV 0 ht (g_V km_Voi_18 ki_Voi_fallSilent kv_Voi_fallSilent kI_Voi kc_Voi_fallSilent) rfl rfl rfl (by decide +kernel) ⟨Nat.le_of_ble_eq_true rfl, Nat.le_of_ble_eq_true rfl⟩) (cPre_V (ci := 4) (q0 := 0) hK hmb (hP.sub (ws' := [(h0, .inr (4, [.ref h1, .ref h2, .int sp])), (h1, .inl (cF, 4, .inr (.inr (.inl mm)))), (h2, .inl (cF, 16, .inr (.inr (.inl yy))))]) [0, 1, 2] rfl) (hD.sub (ws' := [(h0, .inr (4, [.ref h1, .ref h2, .int sp])), (h1, .inl (cF, 4, .inr (.inr (.inl mm)))), (h2, .inl (cF, 16, .inr (.inr (.inl yy))))]) [0, 1, 2] (by decide) rfl) rfl rfl) rfl rfl hl.1 rfl (lv_room (Nat.le_of_ble_eq_true rfl)) dVoi_forget_1 ⟨Nat.le_of_ble_eq_true rfl, Nat.le_of_ble_eq_true rfl⟩) (fun u2 H locs w3 hP hD hS => ?_)
  have hP : va_P D vwCl [(h0, .inr (4, [.ref h1, .ref h2, .int 1])), (h1, .inl (cF, 4, .inr (.inr (.inl (a_fill mm FP.fconst0 4))))), (h2, .inl (cF, 16, .inr (.inr (.inl (a_fill yy FP.fconst0 16)))))] H := hP
  have hD : va_D A [(h0, .inr (4, [.ref h1, .ref h2, .int 1])), (h1, .inl (cF, 4, .inr (.inr (.inl (a_fill mm FP.fconst0 4))))), (h2, .inl (cF, 16, .inr (.inr (.inl (a_fill yy FP.fconst0 16)))))] := hD
  refine lv_aload_n hx hb dVoi_forget_4 rfl (lv_at hl 0 rfl) ?_
  refine lv_iconst (v := 0) hx hb dVoi_forget_5 (by decide) ?_
  refine va_put (D := D) (ci := 4) (v := .int 0) (ty := .boolean) hx hb ht inVoi tVoi tVoi_ok nVoi hown hK hP hD hS 0 rfl rfl 2 (by decide) (ht _ kf_Voi_21) (fun _ h9 => h9) rfl (by decide +kernel) rfl rfl (Nat.le_of_ble_eq_true rfl) dVoi_forget_6 (fun H locs hP hD hS => ?_)
  have hP : va_P D vwCl [(h0, .inr (4, [.ref h1, .ref h2, .int 0])), (h1, .inl (cF, 4, .inr (.inr (.inl (a_fill mm FP.fconst0 4))))), (h2, .inl (cF, 16, .inr (.inr (.inl (a_fill yy FP.fconst0 16)))))] H := hP
  have hD : va_D A [(h0, .inr (4, [.ref h1, .ref h2, .int 0])), (h1, .inl (cF, 4, .inr (.inr (.inl (a_fill mm FP.fconst0 4))))), (h2, .inl (cF, 16, .inr (.inr (.inl (a_fill yy FP.fconst0 16)))))] := hD
  have hP := hP.sub (ws' := [(h0, .inr (4, [.ref h1, .ref h2, .int 0])), (h1, .inl (cF, 4, .inr (.inr (.inl (a_fill mm FP.fconst0 4))))), (h2, .inl (cF, 16, .inr (.inr (.inl (a_fill yy FP.fconst0 16)))))]) [0, 1, 2] rfl
  have hD := hD.sub (ws' := [(h0, .inr (4, [.ref h1, .ref h2, .int 0])), (h1, .inl (cF, 4, .inr (.inr (.inl (a_fill mm FP.fconst0 4))))), (h2, .inl (cF, 16, .inr (.inr (.inl (a_fill yy FP.fconst0 16)))))]) [0, 1, 2] (by decide) rfl
  exact e_v () hx hb hr hlk hK hP hD hS rfl trivial dVoi_forget_9

set_option maxHeartbeats 4000000 in
set_option maxRecDepth 100000 in
theorem c_Voi_foretell (l : Launch) (D : va_G) (cF cI : ClassId) (sz : Nat) (h0 h1 h2 h3 : Nat) (mm : Nat → UInt32) (sp : Int32) (ww : Nat → UInt32) (hw : ∀ j, fk 136 (ww j)) (hm : ∀ j, fk 143 (mm j)) : Met l yVoi_foretell (.code yVoi_foretell cVoi_foretell 4 (some .float) :: TB) ({ frames := 0, cells := 0, slots := 0, locals := 0 }) (va_Pc [.ref h0, .ref h3] (cPre D cF cI [(h0, .inr (4, [.ref h1, .ref h2, .int sp])), (h1, .inl (cF, 4, .inr (.inr (.inl mm)))), (h3, .inl (cF, 5, .inr (.inr (.inl ww))))] sz)) (va_Qf (fun (r : UInt32) (_ : Unit) => r = f_pred ww mm) (cB D cF cI (va_A [(h0, .inr (4, [.ref h1, .ref h2, .int sp])), (h1, .inl (cF, 4, .inr (.inr (.inl mm)))), (h3, .inl (cF, 5, .inr (.inr (.inl ww))))] sz) (fun _ : Unit => [(h0, .inr (4, [.ref h1, .ref h2, .int sp])), (h1, .inl (cF, 4, .inr (.inr (.inl mm)))), (h3, .inl (cF, 5, .inr (.inr (.inl ww))))])) (va_A [(h0, .inr (4, [.ref h1, .ref h2, .int sp])), (h1, .inl (cF, 4, .inr (.inr (.inl mm)))), (h3, .inl (cF, 5, .inr (.inr (.inl ww))))] sz)) 0 0 (va_A [(h0, .inr (4, [.ref h1, .ref h2, .int sp])), (h1, .inl (cF, 4, .inr (.inr (.inl mm)))), (h3, .inl (cF, 5, .inr (.inr (.inl ww))))] sz) := by
  refine c_ofW (own := RVoi) (by decide) rfl (fun p e s m below meth c hsz hx hb hr hml hown ht hlk hin hP hK hD hmb => ?_)
  subst hsz
  generalize hAe : va_A [(h0, .inr (4, [.ref h1, .ref h2, .int sp])), (h1, .inl (cF, 4, .inr (.inr (.inl mm)))), (h3, .inl (cF, 5, .inr (.inr (.inl ww))))] s.heap.size = A at hD ⊢
  have hA : ∀ q : Nat, s.heap.size ≤ q → A q := fun q h => by rw [← hAe]; exact Or.inr h
  have hS : va_S A s.heap s.heap [] := va_S.rf
  have hl := lv_entry ([.ref h0, .ref h3]) (n := 4) (Nat.le_of_ble_eq_true rfl)
  rw [lg_entry_eq]
  generalize (lg_sl ([.ref h0, .ref h3]) ++ List.replicate (4 - (lg_sl ([.ref h0, .ref h3])).length) Slot.unset).toArray = ls at hl ⊢
  have hl : lv_has ls 4 [(0, .ref h0), (1, .ref h3)] := hl
  refine lv_fconst0 hx hb dVoi_foretell_0 ?_
  refine lv_fstore_n (lv' := [(2, .float FP.fconst0), (0, .ref h0), (1, .ref h3)]) hx hb dVoi_foretell_1 rfl hl (by decide) rfl (fun ls hl => ?_)
  refine lv_iconst (v := 1) hx hb dVoi_foretell_2 (by decide) ?_
  refine lv_istore_n (lv' := [(3, .int 1), (2, .float FP.fconst0), (0, .ref h0), (1, .ref h3)]) hx hb dVoi_foretell_3 rfl hl (by decide) rfl (fun ls hl => ?_)
  refine lv_iload_n hx hb dVoi_foretell_4 rfl (lv_at hl 0 rfl) ?_
  refine lv_iconst (v := 4) hx hb dVoi_foretell_5 (by decide) ?_
  refine lv_icmp_gt (tgt := 30) hx hb dVoi_foretell_6 (by decide) (fun c9 => absurd c9 (by decide)) (fun _ => ?_)
  refine lv_fload_n hx hb dVoi_foretell_9 rfl (lv_at hl 1 rfl) ?_
  refine lv_aload_n hx hb dVoi_foretell_10 rfl (lv_at hl 3 rfl) ?_
  refine lv_iload_n hx hb dVoi_foretell_11 rfl (lv_at hl 0 rfl) ?_
  refine k_fald (j := 1) hx hb hK hP 2 0 rfl rfl (by unfold vp_in; decide) rfl dVoi_foretell_12 ?_
  refine lv_aload_n hx hb dVoi_foretell_13 rfl (lv_at hl 2 rfl) ?_
  refine va_get (D := D) (ci := 4) (v := .ref h1) hx hb ht inVoi hown hK hP 0 rfl rfl 0 (by decide) (ht _ kf_Voi_9) (fun _ h9 => h9) rfl dVoi_foretell_14 ?_
  refine lv_iload_n hx hb dVoi_foretell_17 rfl (lv_at hl 0 rfl) ?_
  refine lv_iconst (v := 1) hx hb dVoi_foretell_18 (by decide) ?_
  refine k_isub (v := 0) hx hb dVoi_foretell_19 (by decide) ?_
  refine k_fald (j := 0) hx hb hK hP 1 0 rfl rfl (by unfold vp_in; decide) rfl dVoi_foretell_20 ?_
  refine lv_fmul hx hb dVoi_foretell_21 (fk_n (fk_mul (hw 1) (hm 0) (by decide) (by decide)) (by decide)) ?_
  refine lv_fadd hx hb dVoi_foretell_22 (fk_n (fk_add (K := 153) (fk_mono (show fk 1 FP.fconst0 by unfold fk; decide) (by decide)) (fk_mono (fk_mul (hw 1) (hm 0) (by decide) (by decide)) (by decide)) (by decide)) (by decide)) ?_
  refine lv_fstore_n (lv' := [(2, .float (FP.fadd FP.fconst0 (FP.fmul (ww 1) (mm 0)))), (3, .int 1), (0, .ref h0), (1, .ref h3)]) hx hb dVoi_foretell_23 rfl hl (by decide) rfl (fun ls hl => ?_)
  refine lv_iinc (v := 2) (lv' := [(3, .int 2), (2, .float (FP.fadd FP.fconst0 (FP.fmul (ww 1) (mm 0)))), (0, .ref h0), (1, .ref h3)]) hx hb dVoi_foretell_24 hl (k := 1) rfl (by decide) (by decide) rfl (fun ls hl => ?_)
  refine lv_goto (tgt := 4) hx hb dVoi_foretell_27 (by decide) ?_
  refine lv_iload_n hx hb dVoi_foretell_4 rfl (lv_at hl 0 rfl) ?_
  refine lv_iconst (v := 4) hx hb dVoi_foretell_5 (by decide) ?_
  refine lv_icmp_gt (tgt := 30) hx hb dVoi_foretell_6 (by decide) (fun c9 => absurd c9 (by decide)) (fun _ => ?_)
  refine lv_fload_n hx hb dVoi_foretell_9 rfl (lv_at hl 1 rfl) ?_
  refine lv_aload_n hx hb dVoi_foretell_10 rfl (lv_at hl 3 rfl) ?_
  refine lv_iload_n hx hb dVoi_foretell_11 rfl (lv_at hl 0 rfl) ?_
  refine k_fald (j := 2) hx hb hK hP 2 0 rfl rfl (by unfold vp_in; decide) rfl dVoi_foretell_12 ?_
  refine lv_aload_n hx hb dVoi_foretell_13 rfl (lv_at hl 2 rfl) ?_
  refine va_get (D := D) (ci := 4) (v := .ref h1) hx hb ht inVoi hown hK hP 0 rfl rfl 0 (by decide) (ht _ kf_Voi_9) (fun _ h9 => h9) rfl dVoi_foretell_14 ?_
  refine lv_iload_n hx hb dVoi_foretell_17 rfl (lv_at hl 0 rfl) ?_
  refine lv_iconst (v := 1) hx hb dVoi_foretell_18 (by decide) ?_
  refine k_isub (v := 1) hx hb dVoi_foretell_19 (by decide) ?_
  refine k_fald (j := 1) hx hb hK hP 1 0 rfl rfl (by unfold vp_in; decide) rfl dVoi_foretell_20 ?_
  refine lv_fmul hx hb dVoi_foretell_21 (fk_n (fk_mul (hw 2) (hm 1) (by decide) (by decide)) (by decide)) ?_
  refine lv_fadd hx hb dVoi_foretell_22 (fk_n (fk_add (K := 155) (fk_mono (fk_add (K := 153) (fk_mono (show fk 1 FP.fconst0 by unfold fk; decide) (by decide)) (fk_mono (fk_mul (hw 1) (hm 0) (by decide) (by decide)) (by decide)) (by decide)) (by decide)) (fk_mono (fk_mul (hw 2) (hm 1) (by decide) (by decide)) (by decide)) (by decide)) (by decide)) ?_
  refine lv_fstore_n (lv' := [(2, .float (FP.fadd (FP.fadd FP.fconst0 (FP.fmul (ww 1) (mm 0))) (FP.fmul (ww 2) (mm 1)))), (3, .int 2), (0, .ref h0), (1, .ref h3)]) hx hb dVoi_foretell_23 rfl hl (by decide) rfl (fun ls hl => ?_)
  refine lv_iinc (v := 3) (lv' := [(3, .int 3), (2, .float (FP.fadd (FP.fadd FP.fconst0 (FP.fmul (ww 1) (mm 0))) (FP.fmul (ww 2) (mm 1)))), (0, .ref h0), (1, .ref h3)]) hx hb dVoi_foretell_24 hl (k := 1) rfl (by decide) (by decide) rfl (fun ls hl => ?_)
  refine lv_goto (tgt := 4) hx hb dVoi_foretell_27 (by decide) ?_
  refine lv_iload_n hx hb dVoi_foretell_4 rfl (lv_at hl 0 rfl) ?_
  refine lv_iconst (v := 4) hx hb dVoi_foretell_5 (by decide) ?_
  refine lv_icmp_gt (tgt := 30) hx hb dVoi_foretell_6 (by decide) (fun c9 => absurd c9 (by decide)) (fun _ => ?_)
  refine lv_fload_n hx hb dVoi_foretell_9 rfl (lv_at hl 1 rfl) ?_
  refine lv_aload_n hx hb dVoi_foretell_10 rfl (lv_at hl 3 rfl) ?_
  refine lv_iload_n hx hb dVoi_foretell_11 rfl (lv_at hl 0 rfl) ?_
  refine k_fald (j := 3) hx hb hK hP 2 0 rfl rfl (by unfold vp_in; decide) rfl dVoi_foretell_12 ?_
  refine lv_aload_n hx hb dVoi_foretell_13 rfl (lv_at hl 2 rfl) ?_
  refine va_get (D := D) (ci := 4) (v := .ref h1) hx hb ht inVoi hown hK hP 0 rfl rfl 0 (by decide) (ht _ kf_Voi_9) (fun _ h9 => h9) rfl dVoi_foretell_14 ?_
  refine lv_iload_n hx hb dVoi_foretell_17 rfl (lv_at hl 0 rfl) ?_
  refine lv_iconst (v := 1) hx hb dVoi_foretell_18 (by decide) ?_
  refine k_isub (v := 2) hx hb dVoi_foretell_19 (by decide) ?_
  refine k_fald (j := 2) hx hb hK hP 1 0 rfl rfl (by unfold vp_in; decide) rfl dVoi_foretell_20 ?_
  refine lv_fmul hx hb dVoi_foretell_21 (fk_n (fk_mul (hw 3) (hm 2) (by decide) (by decide)) (by decide)) ?_
  refine lv_fadd hx hb dVoi_foretell_22 (fk_n (fk_add (K := 157) (fk_mono (fk_add (K := 155) (fk_mono (fk_add (K := 153) (fk_mono (show fk 1 FP.fconst0 by unfold fk; decide) (by decide)) (fk_mono (fk_mul (hw 1) (hm 0) (by decide) (by decide)) (by decide)) (by decide)) (by decide)) (fk_mono (fk_mul (hw 2) (hm 1) (by decide) (by decide)) (by decide)) (by decide)) (by decide)) (fk_mono (fk_mul (hw 3) (hm 2) (by decide) (by decide)) (by decide)) (by decide)) (by decide)) ?_
  refine lv_fstore_n (lv' := [(2, .float (FP.fadd (FP.fadd (FP.fadd FP.fconst0 (FP.fmul (ww 1) (mm 0))) (FP.fmul (ww 2) (mm 1))) (FP.fmul (ww 3) (mm 2)))), (3, .int 3), (0, .ref h0), (1, .ref h3)]) hx hb dVoi_foretell_23 rfl hl (by decide) rfl (fun ls hl => ?_)
  refine lv_iinc (v := 4) (lv' := [(3, .int 4), (2, .float (FP.fadd (FP.fadd (FP.fadd FP.fconst0 (FP.fmul (ww 1) (mm 0))) (FP.fmul (ww 2) (mm 1))) (FP.fmul (ww 3) (mm 2)))), (0, .ref h0), (1, .ref h3)]) hx hb dVoi_foretell_24 hl (k := 1) rfl (by decide) (by decide) rfl (fun ls hl => ?_)
  refine lv_goto (tgt := 4) hx hb dVoi_foretell_27 (by decide) ?_
  refine lv_iload_n hx hb dVoi_foretell_4 rfl (lv_at hl 0 rfl) ?_
  refine lv_iconst (v := 4) hx hb dVoi_foretell_5 (by decide) ?_
  refine lv_icmp_gt (tgt := 30) hx hb dVoi_foretell_6 (by decide) (fun c9 => absurd c9 (by decide)) (fun _ => ?_)
  refine lv_fload_n hx hb dVoi_foretell_9 rfl (lv_at hl 1 rfl) ?_
  refine lv_aload_n hx hb dVoi_foretell_10 rfl (lv_at hl 3 rfl) ?_
  refine lv_iload_n hx hb dVoi_foretell_11 rfl (lv_at hl 0 rfl) ?_
  refine k_fald (j := 4) hx hb hK hP 2 0 rfl rfl (by unfold vp_in; decide) rfl dVoi_foretell_12 ?_
  refine lv_aload_n hx hb dVoi_foretell_13 rfl (lv_at hl 2 rfl) ?_
  refine va_get (D := D) (ci := 4) (v := .ref h1) hx hb ht inVoi hown hK hP 0 rfl rfl 0 (by decide) (ht _ kf_Voi_9) (fun _ h9 => h9) rfl dVoi_foretell_14 ?_
  refine lv_iload_n hx hb dVoi_foretell_17 rfl (lv_at hl 0 rfl) ?_
  refine lv_iconst (v := 1) hx hb dVoi_foretell_18 (by decide) ?_
  refine k_isub (v := 3) hx hb dVoi_foretell_19 (by decide) ?_
  refine k_fald (j := 3) hx hb hK hP 1 0 rfl rfl (by unfold vp_in; decide) rfl dVoi_foretell_20 ?_
  refine lv_fmul hx hb dVoi_foretell_21 (fk_n (fk_mul (hw 4) (hm 3) (by decide) (by decide)) (by decide)) ?_
  refine lv_fadd hx hb dVoi_foretell_22 (fk_n (fk_add (K := 159) (fk_mono (fk_add (K := 157) (fk_mono (fk_add (K := 155) (fk_mono (fk_add (K := 153) (fk_mono (show fk 1 FP.fconst0 by unfold fk; decide) (by decide)) (fk_mono (fk_mul (hw 1) (hm 0) (by decide) (by decide)) (by decide)) (by decide)) (by decide)) (fk_mono (fk_mul (hw 2) (hm 1) (by decide) (by decide)) (by decide)) (by decide)) (by decide)) (fk_mono (fk_mul (hw 3) (hm 2) (by decide) (by decide)) (by decide)) (by decide)) (by decide)) (fk_mono (fk_mul (hw 4) (hm 3) (by decide) (by decide)) (by decide)) (by decide)) (by decide)) ?_
  refine lv_fstore_n (lv' := [(2, .float (FP.fadd (FP.fadd (FP.fadd (FP.fadd FP.fconst0 (FP.fmul (ww 1) (mm 0))) (FP.fmul (ww 2) (mm 1))) (FP.fmul (ww 3) (mm 2))) (FP.fmul (ww 4) (mm 3)))), (3, .int 4), (0, .ref h0), (1, .ref h3)]) hx hb dVoi_foretell_23 rfl hl (by decide) rfl (fun ls hl => ?_)
  refine lv_iinc (v := 5) (lv' := [(3, .int 5), (2, .float (FP.fadd (FP.fadd (FP.fadd (FP.fadd FP.fconst0 (FP.fmul (ww 1) (mm 0))) (FP.fmul (ww 2) (mm 1))) (FP.fmul (ww 3) (mm 2))) (FP.fmul (ww 4) (mm 3)))), (0, .ref h0), (1, .ref h3)]) hx hb dVoi_foretell_24 hl (k := 1) rfl (by decide) (by decide) rfl (fun ls hl => ?_)
  refine lv_goto (tgt := 4) hx hb dVoi_foretell_27 (by decide) ?_
  refine lv_iload_n hx hb dVoi_foretell_4 rfl (lv_at hl 0 rfl) ?_
  refine lv_iconst (v := 4) hx hb dVoi_foretell_5 (by decide) ?_
  refine lv_icmp_gt (tgt := 30) hx hb dVoi_foretell_6 (by decide) (fun _ => ?_) (fun c9 => absurd (by decide) c9)
  refine lv_fload_n hx hb dVoi_foretell_30 rfl (lv_at hl 1 rfl) ?_
  have hP := hP.sub (ws' := [(h0, .inr (4, [.ref h1, .ref h2, .int sp])), (h1, .inl (cF, 4, .inr (.inr (.inl mm)))), (h3, .inl (cF, 5, .inr (.inr (.inl ww))))]) [0, 1, 2] rfl
  have hD := hD.sub (ws' := [(h0, .inr (4, [.ref h1, .ref h2, .int sp])), (h1, .inl (cF, 4, .inr (.inr (.inl mm)))), (h3, .inl (cF, 5, .inr (.inr (.inl ww))))]) [0, 1, 2] (by decide) rfl
  exact e_f () hx hb hr hlk hK hP hD hS rfl rfl dVoi_foretell_31

set_option maxHeartbeats 4000000 in
set_option maxRecDepth 100000 in
theorem c_Voi_speak (l : Launch) (D : va_G) (cF cI : ClassId) (sz : Nat) (h0 h1 h2 : Nat) (mm : Nat → UInt32) (yy : Nat → UInt32) (sp : Int32) (i : Nat) (v : UInt32) (hi : i < 16) : Met l yVoi_speak (.code yVoi_speak cVoi_speak 5 none :: TB) ({ frames := 1, cells := 0, slots := 0, locals := 20 }) (va_Pc [.ref h0, .int (nI i), .float v] (cPre D cF cI [(h0, .inr (4, [.ref h1, .ref h2, .int sp])), (h1, .inl (cF, 4, .inr (.inr (.inl mm)))), (h2, .inl (cF, 16, .inr (.inr (.inl yy))))] sz)) (va_Qv (fun _ : Unit => True) (cB D cF cI (va_A [(h0, .inr (4, [.ref h1, .ref h2, .int sp])), (h1, .inl (cF, 4, .inr (.inr (.inl mm)))), (h2, .inl (cF, 16, .inr (.inr (.inl yy))))] sz) (fun _ : Unit => [(h0, .inr (4, [.ref h1, .ref h2, .int 1])), (h1, .inl (cF, 4, .inr (.inr (.inl (f_shift mm (f_clip v)))))), (h2, .inl (cF, 16, .inr (.inr (.inl (vf_upd yy i (f_clip v))))))])) (va_A [(h0, .inr (4, [.ref h1, .ref h2, .int sp])), (h1, .inl (cF, 4, .inr (.inr (.inl mm)))), (h2, .inl (cF, 16, .inr (.inr (.inl yy))))] sz)) 0 0 (va_A [(h0, .inr (4, [.ref h1, .ref h2, .int sp])), (h1, .inl (cF, 4, .inr (.inr (.inl mm)))), (h2, .inl (cF, 16, .inr (.inr (.inl yy))))] sz) := by
  refine c_ofW (own := RVoi) (by decide) rfl (fun p e s m below meth c hsz hx hb hr hml hown ht hlk hin hP hK hD hmb => ?_)
  subst hsz
  generalize hAe : va_A [(h0, .inr (4, [.ref h1, .ref h2, .int sp])), (h1, .inl (cF, 4, .inr (.inr (.inl mm)))), (h2, .inl (cF, 16, .inr (.inr (.inl yy))))] s.heap.size = A at hD ⊢
  have hA : ∀ q : Nat, s.heap.size ≤ q → A q := fun q h => by rw [← hAe]; exact Or.inr h
  have hS : va_S A s.heap s.heap [] := va_S.rf
  have hl := lv_entry ([.ref h0, .int (nI i), .float v]) (n := 5) (Nat.le_of_ble_eq_true rfl)
  rw [lg_entry_eq]
  generalize (lg_sl ([.ref h0, .int (nI i), .float v]) ++ List.replicate (5 - (lg_sl ([.ref h0, .int (nI i), .float v])).length) Slot.unset).toArray = ls at hl ⊢
  have hl : lv_has ls 5 [(0, .ref h0), (1, .int (nI i)), (2, .float v)] := hl
  refine lv_fload_n hx hb dVoi_speak_0 rfl (lv_at hl 2 rfl) ?_
  refine q_f (wc := []) (wr := [(h0, .inr (4, [.ref h1, .ref h2, .int sp])), (h1, .inl (cF, 4, .inr (.inr (.inl mm)))), (h2, .inl (cF, 16, .inr (.inr (.inl yy))))]) [] [0, 1, 2] hK hP hD hS hA rfl rfl (by decide) (by decide) (va_runSN (As := [.float v]) (rest := []) ⟨hx, hb, hml, hown, ht⟩ (c_VF_clipped l D cF cI s.heap.size v) ⟨va_cnB 1 ht (g_C kc_VF_clipped) rfl rfl rfl (hmb.1 _ (List.mem_of_getElem? (i := 11) rfl)) (ht _ kI_VF) (by decide +kernel) ⟨Nat.le_of_ble_eq_true rfl, Nat.le_of_ble_eq_true rfl⟩, ht _ ks_VF_clipped, trivial⟩ (cPre_S hK hmb (hP.sub (ws' := []) [] rfl) (hD.sub (ws' := []) [] (by decide) rfl)) rfl rfl hl.1 rfl (lv_room (Nat.le_of_ble_eq_true rfl)) dVoi_speak_1 ⟨Nat.le_of_ble_eq_true rfl, Nat.le_of_ble_eq_true rfl⟩) (fun r1 u2 H locs w3 hP hD hS => ?_)
  subst w3
  have hP : va_P D vwCl [(h0, .inr (4, [.ref h1, .ref h2, .int sp])), (h1, .inl (cF, 4, .inr (.inr (.inl mm)))), (h2, .inl (cF, 16, .inr (.inr (.inl yy))))] H := hP
  have hD : va_D A [(h0, .inr (4, [.ref h1, .ref h2, .int sp])), (h1, .inl (cF, 4, .inr (.inr (.inl mm)))), (h2, .inl (cF, 16, .inr (.inr (.inl yy))))] := hD
  refine lv_fstore_n (lv' := [(3, .float (f_clip v)), (0, .ref h0), (1, .int (nI i)), (2, .float v)]) hx hb dVoi_speak_4 rfl hl (by decide) rfl (fun ls hl => ?_)
  refine lv_aload_n hx hb dVoi_speak_5 rfl (lv_at hl 1 rfl) ?_
  refine va_get (D := D) (ci := 4) (v := .ref h2) hx hb ht inVoi hown hK hP 0 rfl rfl 1 (by decide) (ht _ kf_Voi_15) (fun _ h9 => h9) rfl dVoi_speak_6 ?_
  refine lv_iload_n hx hb dVoi_speak_9 rfl (lv_at hl 2 rfl) ?_
  refine lv_fload_n hx hb dVoi_speak_10 rfl (lv_at hl 0 rfl) ?_
  refine k_fast (j := i) (f1 := vf_upd yy i (f_clip v)) hx hb hK hP hD hS 2 0 rfl rfl (vp_in_nI (by omega) (by decide)) (nI_clamp (by omega)) rfl dVoi_speak_11 (fun H locs hP hD hS => ?_)
  have hP : va_P D vwCl [(h0, .inr (4, [.ref h1, .ref h2, .int sp])), (h1, .inl (cF, 4, .inr (.inr (.inl mm)))), (h2, .inl (cF, 16, .inr (.inr (.inl (vf_upd yy i (f_clip v))))))] H := hP
  have hD : va_D A [(h0, .inr (4, [.ref h1, .ref h2, .int sp])), (h1, .inl (cF, 4, .inr (.inr (.inl mm)))), (h2, .inl (cF, 16, .inr (.inr (.inl (vf_upd yy i (f_clip v))))))] := hD
  refine lv_iconst (v := 3) hx hb dVoi_speak_12 (by decide) ?_
  refine lv_istore (lv' := [(4, .int 3), (3, .float (f_clip v)), (0, .ref h0), (1, .int (nI i)), (2, .float v)]) hx hb dVoi_speak_13 hl (by decide) rfl (fun ls hl => ?_)
  refine lv_iload hx hb dVoi_speak_15 (lv_at hl 0 rfl) ?_
  refine lv_if_le (tgt := 42) hx hb dVoi_speak_17 (by decide) (fun c9 => absurd c9 (by decide)) (fun _ => ?_)
  refine lv_aload_n hx hb dVoi_speak_20 rfl (lv_at hl 2 rfl) ?_
  refine va_get (D := D) (ci := 4) (v := .ref h1) hx hb ht inVoi hown hK hP 0 rfl rfl 0 (by decide) (ht _ kf_Voi_9) (fun _ h9 => h9) rfl dVoi_speak_21 ?_
  refine lv_iload hx hb dVoi_speak_24 (lv_at hl 0 rfl) ?_
  refine lv_aload_n hx hb dVoi_speak_26 rfl (lv_at hl 2 rfl) ?_
  refine va_get (D := D) (ci := 4) (v := .ref h1) hx hb ht inVoi hown hK hP 0 rfl rfl 0 (by decide) (ht _ kf_Voi_9) (fun _ h9 => h9) rfl dVoi_speak_27 ?_
  refine lv_iload hx hb dVoi_speak_30 (lv_at hl 0 rfl) ?_
  refine lv_iconst (v := 1) hx hb dVoi_speak_32 (by decide) ?_
  refine k_isub (v := 2) hx hb dVoi_speak_33 (by decide) ?_
  refine k_fald (j := 2) hx hb hK hP 1 0 rfl rfl (by unfold vp_in; decide) rfl dVoi_speak_34 ?_
  refine k_fast (j := 3) (f1 := vf_upd mm 3 (mm 2)) hx hb hK hP hD hS 1 0 rfl rfl (by unfold vp_in; decide) rfl rfl dVoi_speak_35 (fun H locs hP hD hS => ?_)
  have hP : va_P D vwCl [(h0, .inr (4, [.ref h1, .ref h2, .int sp])), (h1, .inl (cF, 4, .inr (.inr (.inl (vf_upd mm 3 (mm 2)))))), (h2, .inl (cF, 16, .inr (.inr (.inl (vf_upd yy i (f_clip v))))))] H := hP
  have hD : va_D A [(h0, .inr (4, [.ref h1, .ref h2, .int sp])), (h1, .inl (cF, 4, .inr (.inr (.inl (vf_upd mm 3 (mm 2)))))), (h2, .inl (cF, 16, .inr (.inr (.inl (vf_upd yy i (f_clip v))))))] := hD
  refine lv_iinc (v := 2) (lv' := [(4, .int 2), (3, .float (f_clip v)), (0, .ref h0), (1, .int (nI i)), (2, .float v)]) hx hb dVoi_speak_36 hl (k := 0) rfl (by decide) (by decide) rfl (fun ls hl => ?_)
  refine lv_goto (tgt := 15) hx hb dVoi_speak_39 (by decide) ?_
  refine lv_iload hx hb dVoi_speak_15 (lv_at hl 0 rfl) ?_
  refine lv_if_le (tgt := 42) hx hb dVoi_speak_17 (by decide) (fun c9 => absurd c9 (by decide)) (fun _ => ?_)
  refine lv_aload_n hx hb dVoi_speak_20 rfl (lv_at hl 2 rfl) ?_
  refine va_get (D := D) (ci := 4) (v := .ref h1) hx hb ht inVoi hown hK hP 0 rfl rfl 0 (by decide) (ht _ kf_Voi_9) (fun _ h9 => h9) rfl dVoi_speak_21 ?_
  refine lv_iload hx hb dVoi_speak_24 (lv_at hl 0 rfl) ?_
  refine lv_aload_n hx hb dVoi_speak_26 rfl (lv_at hl 2 rfl) ?_
  refine va_get (D := D) (ci := 4) (v := .ref h1) hx hb ht inVoi hown hK hP 0 rfl rfl 0 (by decide) (ht _ kf_Voi_9) (fun _ h9 => h9) rfl dVoi_speak_27 ?_
  refine lv_iload hx hb dVoi_speak_30 (lv_at hl 0 rfl) ?_
  refine lv_iconst (v := 1) hx hb dVoi_speak_32 (by decide) ?_
  refine k_isub (v := 1) hx hb dVoi_speak_33 (by decide) ?_
  refine k_fald (j := 1) hx hb hK hP 1 0 rfl rfl (by unfold vp_in; decide) rfl dVoi_speak_34 ?_
  refine W.eq (g2 := F0 m 35 ls [.float (mm 1), .int 2, .ref h1]) rfl ?_
  refine k_fast (j := 2) (f1 := vf_upd (vf_upd mm 3 (mm 2)) 2 (mm 1)) hx hb hK hP hD hS 1 0 rfl rfl (by unfold vp_in; decide) rfl rfl dVoi_speak_35 (fun H locs hP hD hS => ?_)
  have hP : va_P D vwCl [(h0, .inr (4, [.ref h1, .ref h2, .int sp])), (h1, .inl (cF, 4, .inr (.inr (.inl (vf_upd (vf_upd mm 3 (mm 2)) 2 (mm 1)))))), (h2, .inl (cF, 16, .inr (.inr (.inl (vf_upd yy i (f_clip v))))))] H := hP
  have hD : va_D A [(h0, .inr (4, [.ref h1, .ref h2, .int sp])), (h1, .inl (cF, 4, .inr (.inr (.inl (vf_upd (vf_upd mm 3 (mm 2)) 2 (mm 1)))))), (h2, .inl (cF, 16, .inr (.inr (.inl (vf_upd yy i (f_clip v))))))] := hD
  refine lv_iinc (v := 1) (lv' := [(4, .int 1), (3, .float (f_clip v)), (0, .ref h0), (1, .int (nI i)), (2, .float v)]) hx hb dVoi_speak_36 hl (k := 0) rfl (by decide) (by decide) rfl (fun ls hl => ?_)
  refine lv_goto (tgt := 15) hx hb dVoi_speak_39 (by decide) ?_
  refine lv_iload hx hb dVoi_speak_15 (lv_at hl 0 rfl) ?_
  refine lv_if_le (tgt := 42) hx hb dVoi_speak_17 (by decide) (fun c9 => absurd c9 (by decide)) (fun _ => ?_)
  refine lv_aload_n hx hb dVoi_speak_20 rfl (lv_at hl 2 rfl) ?_
  refine va_get (D := D) (ci := 4) (v := .ref h1) hx hb ht inVoi hown hK hP 0 rfl rfl 0 (by decide) (ht _ kf_Voi_9) (fun _ h9 => h9) rfl dVoi_speak_21 ?_
  refine lv_iload hx hb dVoi_speak_24 (lv_at hl 0 rfl) ?_
  refine lv_aload_n hx hb dVoi_speak_26 rfl (lv_at hl 2 rfl) ?_
  refine va_get (D := D) (ci := 4) (v := .ref h1) hx hb ht inVoi hown hK hP 0 rfl rfl 0 (by decide) (ht _ kf_Voi_9) (fun _ h9 => h9) rfl dVoi_speak_27 ?_
  refine lv_iload hx hb dVoi_speak_30 (lv_at hl 0 rfl) ?_
  refine lv_iconst (v := 1) hx hb dVoi_speak_32 (by decide) ?_
  refine k_isub (v := 0) hx hb dVoi_speak_33 (by decide) ?_
  refine k_fald (j := 0) hx hb hK hP 1 0 rfl rfl (by unfold vp_in; decide) rfl dVoi_speak_34 ?_
  refine W.eq (g2 := F0 m 35 ls [.float (mm 0), .int 1, .ref h1]) rfl ?_
  refine k_fast (j := 1) (f1 := vf_upd (vf_upd (vf_upd mm 3 (mm 2)) 2 (mm 1)) 1 (mm 0)) hx hb hK hP hD hS 1 0 rfl rfl (by unfold vp_in; decide) rfl rfl dVoi_speak_35 (fun H locs hP hD hS => ?_)
  have hP : va_P D vwCl [(h0, .inr (4, [.ref h1, .ref h2, .int sp])), (h1, .inl (cF, 4, .inr (.inr (.inl (vf_upd (vf_upd (vf_upd mm 3 (mm 2)) 2 (mm 1)) 1 (mm 0)))))), (h2, .inl (cF, 16, .inr (.inr (.inl (vf_upd yy i (f_clip v))))))] H := hP
  have hD : va_D A [(h0, .inr (4, [.ref h1, .ref h2, .int sp])), (h1, .inl (cF, 4, .inr (.inr (.inl (vf_upd (vf_upd (vf_upd mm 3 (mm 2)) 2 (mm 1)) 1 (mm 0)))))), (h2, .inl (cF, 16, .inr (.inr (.inl (vf_upd yy i (f_clip v))))))] := hD
  refine lv_iinc (v := 0) (lv' := [(4, .int 0), (3, .float (f_clip v)), (0, .ref h0), (1, .int (nI i)), (2, .float v)]) hx hb dVoi_speak_36 hl (k := 0) rfl (by decide) (by decide) rfl (fun ls hl => ?_)
  refine lv_goto (tgt := 15) hx hb dVoi_speak_39 (by decide) ?_
  refine lv_iload hx hb dVoi_speak_15 (lv_at hl 0 rfl) ?_
  refine lv_if_le (tgt := 42) hx hb dVoi_speak_17 (by decide) (fun _ => ?_) (fun c9 => absurd (by decide) c9)
  refine lv_aload_n hx hb dVoi_speak_42 rfl (lv_at hl 2 rfl) ?_
  refine va_get (D := D) (ci := 4) (v := .ref h1) hx hb ht inVoi hown hK hP 0 rfl rfl 0 (by decide) (ht _ kf_Voi_9) (fun _ h9 => h9) rfl dVoi_speak_43 ?_
  refine lv_iconst (v := 0) hx hb dVoi_speak_46 (by decide) ?_
  refine lv_fload_n hx hb dVoi_speak_47 rfl (lv_at hl 1 rfl) ?_
  refine k_fast (j := 0) (f1 := vf_upd (vf_upd (vf_upd (vf_upd mm 3 (mm 2)) 2 (mm 1)) 1 (mm 0)) 0 (f_clip v)) hx hb hK hP hD hS 1 0 rfl rfl (by unfold vp_in; decide) rfl rfl dVoi_speak_48 (fun H locs hP hD hS => ?_)
  have hP : va_P D vwCl [(h0, .inr (4, [.ref h1, .ref h2, .int sp])), (h1, .inl (cF, 4, .inr (.inr (.inl (vf_upd (vf_upd (vf_upd (vf_upd mm 3 (mm 2)) 2 (mm 1)) 1 (mm 0)) 0 (f_clip v)))))), (h2, .inl (cF, 16, .inr (.inr (.inl (vf_upd yy i (f_clip v))))))] H := hP
  have hD : va_D A [(h0, .inr (4, [.ref h1, .ref h2, .int sp])), (h1, .inl (cF, 4, .inr (.inr (.inl (vf_upd (vf_upd (vf_upd (vf_upd mm 3 (mm 2)) 2 (mm 1)) 1 (mm 0)) 0 (f_clip v)))))), (h2, .inl (cF, 16, .inr (.inr (.inl (vf_upd yy i (f_clip v))))))] := hD
  refine lv_aload_n hx hb dVoi_speak_49 rfl (lv_at hl 2 rfl) ?_
  refine lv_iconst (v := 1) hx hb dVoi_speak_50 (by decide) ?_
  refine va_put (D := D) (ci := 4) (v := .int 1) (ty := .boolean) hx hb ht inVoi tVoi tVoi_ok nVoi hown hK hP hD hS 0 rfl rfl 2 (by decide) (ht _ kf_Voi_21) (fun _ h9 => h9) rfl (by decide +kernel) rfl rfl (Nat.le_of_ble_eq_true rfl) dVoi_speak_51 (fun H locs hP hD hS => ?_)
  have hP : va_P D vwCl [(h0, .inr (4, [.ref h1, .ref h2, .int 1])), (h1, .inl (cF, 4, .inr (.inr (.inl (vf_upd (vf_upd (vf_upd (vf_upd mm 3 (mm 2)) 2 (mm 1)) 1 (mm 0)) 0 (f_clip v)))))), (h2, .inl (cF, 16, .inr (.inr (.inl (vf_upd yy i (f_clip v))))))] H := hP
  have hD : va_D A [(h0, .inr (4, [.ref h1, .ref h2, .int 1])), (h1, .inl (cF, 4, .inr (.inr (.inl (vf_upd (vf_upd (vf_upd (vf_upd mm 3 (mm 2)) 2 (mm 1)) 1 (mm 0)) 0 (f_clip v)))))), (h2, .inl (cF, 16, .inr (.inr (.inl (vf_upd yy i (f_clip v))))))] := hD
  have hP := hP.sub (ws' := [(h0, .inr (4, [.ref h1, .ref h2, .int 1])), (h1, .inl (cF, 4, .inr (.inr (.inl (vf_upd (vf_upd (vf_upd (vf_upd mm 3 (mm 2)) 2 (mm 1)) 1 (mm 0)) 0 (f_clip v)))))), (h2, .inl (cF, 16, .inr (.inr (.inl (vf_upd yy i (f_clip v))))))]) [0, 1, 2] rfl
  have hD := hD.sub (ws' := [(h0, .inr (4, [.ref h1, .ref h2, .int 1])), (h1, .inl (cF, 4, .inr (.inr (.inl (vf_upd (vf_upd (vf_upd (vf_upd mm 3 (mm 2)) 2 (mm 1)) 1 (mm 0)) 0 (f_clip v)))))), (h2, .inl (cF, 16, .inr (.inr (.inl (vf_upd yy i (f_clip v))))))]) [0, 1, 2] (by decide) rfl
  exact e_v () hx hb hr hlk hK hP hD hS rfl trivial dVoi_speak_54

set_option maxHeartbeats 4000000 in
set_option maxRecDepth 100000 in
theorem c_Pac_init (l : Launch) (D : va_G) (cF cI : ClassId) (sz : Nat) (h0 : Nat) : Met l yPac_init (.code yPac_init cPac_init 1 none :: TB) ({ frames := 1, cells := 3, slots := 26, locals := 13 }) (va_Pc [.ref h0] (cPre D cF cI [(h0, .inr (3, [.int 0, .int 0, .null, .null, .null]))] sz)) (va_Qv (fun _ : Nat × Nat × Nat => True) (cB D cF cI (va_A [(h0, .inr (3, [.int 0, .int 0, .null, .null, .null]))] sz) (fun u : Nat × Nat × Nat => [(h0, .inr (3, [.int 0, .int 0, .ref u.1, .ref u.2.1, .ref u.2.2])), (u.1, .inl (cI, 5, .inl (fun _ => 0))), (u.2.1, .inl (cF, 5, .inr (.inr (.inl (fun _ => 0))))), (u.2.2, .inl (cI, 16, .inl (fun _ => 0)))])) (va_A [(h0, .inr (3, [.int 0, .int 0, .null, .null, .null]))] sz)) 3 26 (va_A [(h0, .inr (3, [.int 0, .int 0, .null, .null, .null]))] sz) := by
  refine c_ofW (own := RPac) (by decide) rfl (fun p e s m below meth c hsz hx hb hr hml hown ht hlk hin hP hK hD hmb => ?_)
  subst hsz
  generalize hAe : va_A [(h0, .inr (3, [.int 0, .int 0, .null, .null, .null]))] s.heap.size = A at hD ⊢
  have hA : ∀ q : Nat, s.heap.size ≤ q → A q := fun q h => by rw [← hAe]; exact Or.inr h
  have hS : va_S A s.heap s.heap [] := va_S.rf
  have hl := lv_entry ([.ref h0]) (n := 1) (Nat.le_of_ble_eq_true rfl)
  rw [lg_entry_eq]
  generalize (lg_sl ([.ref h0]) ++ List.replicate (1 - (lg_sl ([.ref h0])).length) Slot.unset).toArray = ls at hl ⊢
  have hl : lv_has ls 1 [(0, .ref h0)] := hl
  refine lv_aload_n hx hb dPac_init_0 rfl (lv_at hl 0 rfl) ?_
  refine W.objInit hx hb hown (ht _ km_Pac_3) (ht _ ki_objectInit) (ht _ kc_objectInit) rfl (by rw [hml]; exact hl.1) rfl dPac_init_1 (Nat.le_of_ble_eq_true rfl) (Nat.le_of_ble_eq_true rfl) ?_
  refine W.eq (g2 := F0 m 4 ls []) rfl ?_
  refine lv_aload_n hx hb dPac_init_4 rfl (lv_at hl 0 rfl) ?_
  refine lv_iconst (v := 5) hx hb dPac_init_5 (by decide) ?_
  refine n_arr (ty := .int) (n := 5) (N := 5) (a0 := (5, .inl (fun _ => 0))) 1 hx hb (ht _ ka_int) rfl hK hP hD hS hA (fun _ => rfl) (by decide) (by decide) (by decide) (Nat.le_of_ble_eq_true rfl) (Nat.le_of_ble_eq_true rfl) rfl dPac_init_6 (fun q1 H hP hD hS => ?_)
  have hP : va_P D vwCl [(h0, .inr (3, [.int 0, .int 0, .null, .null, .null])), (q1, .inl (cI, 5, .inl (fun _ => 0)))] H := hP
  have hD : va_D A [(h0, .inr (3, [.int 0, .int 0, .null, .null, .null])), (q1, .inl (cI, 5, .inl (fun _ => 0)))] := hD
  refine va_putF (D := D) (ci := 3) (v := .ref q1) (ty := (.array (.int))) hx hb ht inPac tPac tPac_ok nPac hown hK hP hD hS 0 rfl rfl 2 (by decide) (ht _ kf_Pac_9) (fun _ h9 => h9) rfl hin rfl (by decide +kernel) rfl rfl (Nat.le_of_ble_eq_true rfl) dPac_init_8 (fun H locs hP hD hS => ?_)
  have hP : va_P D vwCl [(h0, .inr (3, [.int 0, .int 0, .ref q1, .null, .null])), (q1, .inl (cI, 5, .inl (fun _ => 0)))] H := hP
  have hD : va_D A [(h0, .inr (3, [.int 0, .int 0, .ref q1, .null, .null])), (q1, .inl (cI, 5, .inl (fun _ => 0)))] := hD
  refine lv_aload_n hx hb dPac_init_11 rfl (lv_at hl 0 rfl) ?_
  refine lv_iconst (v := 5) hx hb dPac_init_12 (by decide) ?_
  refine n_arr (ty := .float) (n := 5) (N := 5) (a0 := (5, .inr (.inr (.inl (fun _ => 0))))) 0 hx hb (ht _ ka_float) rfl hK hP hD hS hA (fun _ => rfl) (by decide) (by decide) (by decide) (Nat.le_of_ble_eq_true rfl) (Nat.le_of_ble_eq_true rfl) rfl dPac_init_13 (fun q2 H hP hD hS => ?_)
  have hP : va_P D vwCl [(h0, .inr (3, [.int 0, .int 0, .ref q1, .null, .null])), (q1, .inl (cI, 5, .inl (fun _ => 0))), (q2, .inl (cF, 5, .inr (.inr (.inl (fun _ => 0)))))] H := hP
  have hD : va_D A [(h0, .inr (3, [.int 0, .int 0, .ref q1, .null, .null])), (q1, .inl (cI, 5, .inl (fun _ => 0))), (q2, .inl (cF, 5, .inr (.inr (.inl (fun _ => 0)))))] := hD
  refine va_putF (D := D) (ci := 3) (v := .ref q2) (ty := (.array (.float))) hx hb ht inPac tPac tPac_ok nPac hown hK hP hD hS 0 rfl rfl 3 (by decide) (ht _ kf_Pac_15) (fun _ h9 => h9) rfl hin rfl (by decide +kernel) rfl rfl (Nat.le_of_ble_eq_true rfl) dPac_init_15 (fun H locs hP hD hS => ?_)
  have hP : va_P D vwCl [(h0, .inr (3, [.int 0, .int 0, .ref q1, .ref q2, .null])), (q1, .inl (cI, 5, .inl (fun _ => 0))), (q2, .inl (cF, 5, .inr (.inr (.inl (fun _ => 0)))))] H := hP
  have hD : va_D A [(h0, .inr (3, [.int 0, .int 0, .ref q1, .ref q2, .null])), (q1, .inl (cI, 5, .inl (fun _ => 0))), (q2, .inl (cF, 5, .inr (.inr (.inl (fun _ => 0)))))] := hD
  refine lv_aload_n hx hb dPac_init_18 rfl (lv_at hl 0 rfl) ?_
  refine lv_bipush (v := 16) hx hb dPac_init_19 (by decide) ?_
  refine n_arr (ty := .int) (n := 16) (N := 16) (a0 := (16, .inl (fun _ => 0))) 1 hx hb (ht _ ka_int) rfl hK hP hD hS hA (fun _ => rfl) (by decide) (by decide) (by decide) (Nat.le_of_ble_eq_true rfl) (Nat.le_of_ble_eq_true rfl) rfl dPac_init_21 (fun q3 H hP hD hS => ?_)
  have hP : va_P D vwCl [(h0, .inr (3, [.int 0, .int 0, .ref q1, .ref q2, .null])), (q1, .inl (cI, 5, .inl (fun _ => 0))), (q2, .inl (cF, 5, .inr (.inr (.inl (fun _ => 0))))), (q3, .inl (cI, 16, .inl (fun _ => 0)))] H := hP
  have hD : va_D A [(h0, .inr (3, [.int 0, .int 0, .ref q1, .ref q2, .null])), (q1, .inl (cI, 5, .inl (fun _ => 0))), (q2, .inl (cF, 5, .inr (.inr (.inl (fun _ => 0))))), (q3, .inl (cI, 16, .inl (fun _ => 0)))] := hD
  refine va_putF (D := D) (ci := 3) (v := .ref q3) (ty := (.array (.int))) hx hb ht inPac tPac tPac_ok nPac hown hK hP hD hS 0 rfl rfl 4 (by decide) (ht _ kf_Pac_19) (fun _ h9 => h9) rfl hin rfl (by decide +kernel) rfl rfl (Nat.le_of_ble_eq_true rfl) dPac_init_23 (fun H locs hP hD hS => ?_)
  have hP : va_P D vwCl [(h0, .inr (3, [.int 0, .int 0, .ref q1, .ref q2, .ref q3])), (q1, .inl (cI, 5, .inl (fun _ => 0))), (q2, .inl (cF, 5, .inr (.inr (.inl (fun _ => 0))))), (q3, .inl (cI, 16, .inl (fun _ => 0)))] H := hP
  have hD : va_D A [(h0, .inr (3, [.int 0, .int 0, .ref q1, .ref q2, .ref q3])), (q1, .inl (cI, 5, .inl (fun _ => 0))), (q2, .inl (cF, 5, .inr (.inr (.inl (fun _ => 0))))), (q3, .inl (cI, 16, .inl (fun _ => 0)))] := hD
  have hP := hP.sub (ws' := [(h0, .inr (3, [.int 0, .int 0, .ref q1, .ref q2, .ref q3])), (q1, .inl (cI, 5, .inl (fun _ => 0))), (q2, .inl (cF, 5, .inr (.inr (.inl (fun _ => 0))))), (q3, .inl (cI, 16, .inl (fun _ => 0)))]) [0, 1, 2, 3] rfl
  have hD := hD.sub (ws' := [(h0, .inr (3, [.int 0, .int 0, .ref q1, .ref q2, .ref q3])), (q1, .inl (cI, 5, .inl (fun _ => 0))), (q2, .inl (cF, 5, .inr (.inr (.inl (fun _ => 0))))), (q3, .inl (cI, 16, .inl (fun _ => 0)))]) [0, 1, 2, 3] (by decide) rfl
  exact e_v (q1, q2, q3) hx hb hr hlk hK hP hD hS rfl trivial dPac_init_26

set_option maxHeartbeats 4000000 in
set_option maxRecDepth 100000 in
theorem c_Pac_clear (l : Launch) (D : va_G) (cF cI : ClassId) (sz : Nat) (h0 h1 h2 h3 : Nat) (pl : Int32) (pg : Int32) (kc : Nat → Int32) (ww : Nat → UInt32) (ll : Nat → Int32) : Met l yPac_clear (.code yPac_clear cPac_clear 1 none :: TB) ({ frames := 1, cells := 0, slots := 0, locals := 23 }) (va_Pc [.ref h0] (cPre D cF cI [(h0, .inr (3, [.int pl, .int pg, .ref h1, .ref h2, .ref h3])), (h1, .inl (cI, 5, .inl kc)), (h2, .inl (cF, 5, .inr (.inr (.inl ww)))), (h3, .inl (cI, 16, .inl ll))] sz)) (va_Qv (fun _ : Unit => True) (cB D cF cI (va_A [(h0, .inr (3, [.int pl, .int pg, .ref h1, .ref h2, .ref h3])), (h1, .inl (cI, 5, .inl kc)), (h2, .inl (cF, 5, .inr (.inr (.inl ww)))), (h3, .inl (cI, 16, .inl ll))] sz) (fun _ : Unit => [(h0, .inr (3, [.int 0, .int 0, .ref h1, .ref h2, .ref h3])), (h1, .inl (cI, 5, .inl (a_fill kc 0 5))), (h2, .inl (cF, 5, .inr (.inr (.inl (a_fill ww FP.fconst0 5))))), (h3, .inl (cI, 16, .inl (a_fill ll 0 16)))])) (va_A [(h0, .inr (3, [.int pl, .int pg, .ref h1, .ref h2, .ref h3])), (h1, .inl (cI, 5, .inl kc)), (h2, .inl (cF, 5, .inr (.inr (.inl ww)))), (h3, .inl (cI, 16, .inl ll))] sz)) 0 0 (va_A [(h0, .inr (3, [.int pl, .int pg, .ref h1, .ref h2, .ref h3])), (h1, .inl (cI, 5, .inl kc)), (h2, .inl (cF, 5, .inr (.inr (.inl ww)))), (h3, .inl (cI, 16, .inl ll))] sz) := by
  refine c_ofW (own := RPac) (by decide) rfl (fun p e s m below meth c hsz hx hb hr hml hown ht hlk hin hP hK hD hmb => ?_)
  subst hsz
  generalize hAe : va_A [(h0, .inr (3, [.int pl, .int pg, .ref h1, .ref h2, .ref h3])), (h1, .inl (cI, 5, .inl kc)), (h2, .inl (cF, 5, .inr (.inr (.inl ww)))), (h3, .inl (cI, 16, .inl ll))] s.heap.size = A at hD ⊢
  have hA : ∀ q : Nat, s.heap.size ≤ q → A q := fun q h => by rw [← hAe]; exact Or.inr h
  have hS : va_S A s.heap s.heap [] := va_S.rf
  have hl := lv_entry ([.ref h0]) (n := 1) (Nat.le_of_ble_eq_true rfl)
  rw [lg_entry_eq]
  generalize (lg_sl ([.ref h0]) ++ List.replicate (1 - (lg_sl ([.ref h0])).length) Slot.unset).toArray = ls at hl ⊢
  have hl : lv_has ls 1 [(0, .ref h0)] := hl
  refine lv_aload_n hx hb dPac_clear_0 rfl (lv_at hl 0 rfl) ?_
  refine lv_iconst (v := 0) hx hb dPac_clear_1 (by decide) ?_
  refine va_put (D := D) (ci := 3) (v := .int 0) (ty := .boolean) hx hb ht inPac tPac tPac_ok nPac hown hK hP hD hS 0 rfl rfl 0 (by decide) (ht _ kf_Pac_22) (fun _ h9 => h9) rfl (by decide +kernel) rfl rfl (Nat.le_of_ble_eq_true rfl) dPac_clear_2 (fun H locs hP hD hS => ?_)
  have hP : va_P D vwCl [(h0, .inr (3, [.int 0, .int pg, .ref h1, .ref h2, .ref h3])), (h1, .inl (cI, 5, .inl kc)), (h2, .inl (cF, 5, .inr (.inr (.inl ww)))), (h3, .inl (cI, 16, .inl ll))] H := hP
  have hD : va_D A [(h0, .inr (3, [.int 0, .int pg, .ref h1, .ref h2, .ref h3])), (h1, .inl (cI, 5, .inl kc)), (h2, .inl (cF, 5, .inr (.inr (.inl ww)))), (h3, .inl (cI, 16, .inl ll))] := hD
  refine lv_aload_n hx hb dPac_clear_5 rfl (lv_at hl 0 rfl) ?_
  refine lv_iconst (v := 0) hx hb dPac_clear_6 (by decide) ?_
  refine va_put (D := D) (ci := 3) (v := .int 0) (ty := .int) hx hb ht inPac tPac tPac_ok nPac hown hK hP hD hS 0 rfl rfl 1 (by decide) (ht _ kf_Pac_26) (fun _ h9 => h9) rfl (by decide +kernel) rfl rfl (Nat.le_of_ble_eq_true rfl) dPac_clear_7 (fun H locs hP hD hS => ?_)
  have hP : va_P D vwCl [(h0, .inr (3, [.int 0, .int 0, .ref h1, .ref h2, .ref h3])), (h1, .inl (cI, 5, .inl kc)), (h2, .inl (cF, 5, .inr (.inr (.inl ww)))), (h3, .inl (cI, 16, .inl ll))] H := hP
  have hD : va_D A [(h0, .inr (3, [.int 0, .int 0, .ref h1, .ref h2, .ref h3])), (h1, .inl (cI, 5, .inl kc)), (h2, .inl (cF, 5, .inr (.inr (.inl ww)))), (h3, .inl (cI, 16, .inl ll))] := hD
  refine lv_aload_n hx hb dPac_clear_10 rfl (lv_at hl 0 rfl) ?_
  refine va_get (D := D) (ci := 3) (v := .ref h1) hx hb ht inPac hown hK hP 0 rfl rfl 2 (by decide) (ht _ kf_Pac_9) (fun _ h9 => h9) rfl dPac_clear_11 ?_
  refine lv_iconst (v := 0) hx hb dPac_clear_14 (by decide) ?_
  refine q_v (wc := [(h1, .inl (cI, 5, .inl kc))]) (wr := [(h0, .inr (3, [.int 0, .int 0, .ref h1, .ref h2, .ref h3])), (h2, .inl (cF, 5, .inr (.inr (.inl ww)))), (h3, .inl (cI, 16, .inl ll))]) [1] [0, 2, 3] hK hP hD hS hA rfl rfl (by decide) (by decide) (va_runS (As := [.ref h1, .int 0]) (rest := []) ⟨hx, hb, hml, hown, ht⟩ (c_Arr_fill_I l D cF cI H.size h1 5 kc 0 (by decide)) (va_cwS 2 ht (g_S km_Pac_30 ks_Arr_fill_I kI_Arr kc_Arr_fill_I) rfl rfl rfl (by decide +kernel) ⟨Nat.le_of_ble_eq_true rfl, Nat.le_of_ble_eq_true rfl⟩) (cPre_S hK hmb (hP.sub (ws' := [(h1, .inl (cI, 5, .inl kc))]) [1] rfl) (hD.sub (ws' := [(h1, .inl (cI, 5, .inl kc))]) [1] (by decide) rfl)) rfl rfl hl.1 rfl (lv_room (Nat.le_of_ble_eq_true rfl)) dPac_clear_15 ⟨Nat.le_of_ble_eq_true rfl, Nat.le_of_ble_eq_true rfl⟩) (fun u2 H locs w3 hP hD hS => ?_)
  have hP : va_P D vwCl [(h0, .inr (3, [.int 0, .int 0, .ref h1, .ref h2, .ref h3])), (h2, .inl (cF, 5, .inr (.inr (.inl ww)))), (h3, .inl (cI, 16, .inl ll)), (h1, .inl (cI, 5, .inl (a_fill kc 0 5)))] H := hP
  have hD : va_D A [(h0, .inr (3, [.int 0, .int 0, .ref h1, .ref h2, .ref h3])), (h2, .inl (cF, 5, .inr (.inr (.inl ww)))), (h3, .inl (cI, 16, .inl ll)), (h1, .inl (cI, 5, .inl (a_fill kc 0 5)))] := hD
  refine lv_aload_n hx hb dPac_clear_18 rfl (lv_at hl 0 rfl) ?_
  refine va_get (D := D) (ci := 3) (v := .ref h2) hx hb ht inPac hown hK hP 0 rfl rfl 3 (by decide) (ht _ kf_Pac_15) (fun _ h9 => h9) rfl dPac_clear_19 ?_
  refine lv_fconst0 hx hb dPac_clear_22 ?_
  refine q_v (wc := [(h2, .inl (cF, 5, .inr (.inr (.inl ww))))]) (wr := [(h0, .inr (3, [.int 0, .int 0, .ref h1, .ref h2, .ref h3])), (h3, .inl (cI, 16, .inl ll)), (h1, .inl (cI, 5, .inl (a_fill kc 0 5)))]) [1] [0, 2, 3] hK hP hD hS hA rfl rfl (by decide) (by decide) (va_runS (As := [.ref h2, .float FP.fconst0]) (rest := []) ⟨hx, hb, hml, hown, ht⟩ (c_Arr_fill_F l D cF cI H.size h2 5 ww FP.fconst0 (by decide)) (va_cwS 2 ht (g_S km_Pac_36 ks_Arr_fill_F kI_Arr kc_Arr_fill_F) rfl rfl rfl (by decide +kernel) ⟨Nat.le_of_ble_eq_true rfl, Nat.le_of_ble_eq_true rfl⟩) (cPre_S hK hmb (hP.sub (ws' := [(h2, .inl (cF, 5, .inr (.inr (.inl ww))))]) [1] rfl) (hD.sub (ws' := [(h2, .inl (cF, 5, .inr (.inr (.inl ww))))]) [1] (by decide) rfl)) rfl rfl hl.1 rfl (lv_room (Nat.le_of_ble_eq_true rfl)) dPac_clear_23 ⟨Nat.le_of_ble_eq_true rfl, Nat.le_of_ble_eq_true rfl⟩) (fun u5 H locs w6 hP hD hS => ?_)
  have hP : va_P D vwCl [(h0, .inr (3, [.int 0, .int 0, .ref h1, .ref h2, .ref h3])), (h3, .inl (cI, 16, .inl ll)), (h1, .inl (cI, 5, .inl (a_fill kc 0 5))), (h2, .inl (cF, 5, .inr (.inr (.inl (a_fill ww FP.fconst0 5)))))] H := hP
  have hD : va_D A [(h0, .inr (3, [.int 0, .int 0, .ref h1, .ref h2, .ref h3])), (h3, .inl (cI, 16, .inl ll)), (h1, .inl (cI, 5, .inl (a_fill kc 0 5))), (h2, .inl (cF, 5, .inr (.inr (.inl (a_fill ww FP.fconst0 5)))))] := hD
  refine lv_aload_n hx hb dPac_clear_26 rfl (lv_at hl 0 rfl) ?_
  refine va_get (D := D) (ci := 3) (v := .ref h3) hx hb ht inPac hown hK hP 0 rfl rfl 4 (by decide) (ht _ kf_Pac_19) (fun _ h9 => h9) rfl dPac_clear_27 ?_
  refine lv_iconst (v := 0) hx hb dPac_clear_30 (by decide) ?_
  refine q_v (wc := [(h3, .inl (cI, 16, .inl ll))]) (wr := [(h0, .inr (3, [.int 0, .int 0, .ref h1, .ref h2, .ref h3])), (h1, .inl (cI, 5, .inl (a_fill kc 0 5))), (h2, .inl (cF, 5, .inr (.inr (.inl (a_fill ww FP.fconst0 5)))))]) [1] [0, 2, 3] hK hP hD hS hA rfl rfl (by decide) (by decide) (va_runS (As := [.ref h3, .int 0]) (rest := []) ⟨hx, hb, hml, hown, ht⟩ (c_Arr_fill_I l D cF cI H.size h3 16 ll 0 (by decide)) (va_cwS 2 ht (g_S km_Pac_30 ks_Arr_fill_I kI_Arr kc_Arr_fill_I) rfl rfl rfl (by decide +kernel) ⟨Nat.le_of_ble_eq_true rfl, Nat.le_of_ble_eq_true rfl⟩) (cPre_S hK hmb (hP.sub (ws' := [(h3, .inl (cI, 16, .inl ll))]) [1] rfl) (hD.sub (ws' := [(h3, .inl (cI, 16, .inl ll))]) [1] (by decide) rfl)) rfl rfl hl.1 rfl (lv_room (Nat.le_of_ble_eq_true rfl)) dPac_clear_31 ⟨Nat.le_of_ble_eq_true rfl, Nat.le_of_ble_eq_true rfl⟩) (fun u8 H locs w9 hP hD hS => ?_)
  have hP : va_P D vwCl [(h0, .inr (3, [.int 0, .int 0, .ref h1, .ref h2, .ref h3])), (h1, .inl (cI, 5, .inl (a_fill kc 0 5))), (h2, .inl (cF, 5, .inr (.inr (.inl (a_fill ww FP.fconst0 5))))), (h3, .inl (cI, 16, .inl (a_fill ll 0 16)))] H := hP
  have hD : va_D A [(h0, .inr (3, [.int 0, .int 0, .ref h1, .ref h2, .ref h3])), (h1, .inl (cI, 5, .inl (a_fill kc 0 5))), (h2, .inl (cF, 5, .inr (.inr (.inl (a_fill ww FP.fconst0 5))))), (h3, .inl (cI, 16, .inl (a_fill ll 0 16)))] := hD
  have hP := hP.sub (ws' := [(h0, .inr (3, [.int 0, .int 0, .ref h1, .ref h2, .ref h3])), (h1, .inl (cI, 5, .inl (a_fill kc 0 5))), (h2, .inl (cF, 5, .inr (.inr (.inl (a_fill ww FP.fconst0 5))))), (h3, .inl (cI, 16, .inl (a_fill ll 0 16)))]) [0, 1, 2, 3] rfl
  have hD := hD.sub (ws' := [(h0, .inr (3, [.int 0, .int 0, .ref h1, .ref h2, .ref h3])), (h1, .inl (cI, 5, .inl (a_fill kc 0 5))), (h2, .inl (cF, 5, .inr (.inr (.inl (a_fill ww FP.fconst0 5))))), (h3, .inl (cI, 16, .inl (a_fill ll 0 16)))]) [0, 1, 2, 3] (by decide) rfl
  exact e_v () hx hb hr hlk hK hP hD hS rfl trivial dPac_clear_34

set_option maxHeartbeats 4000000 in
set_option maxRecDepth 100000 in
theorem c_Pac_stepOf (l : Launch) (D : va_G) (cF cI : ClassId) (sz : Nat) (h0 h1 h2 h3 : Nat) (pl : Int32) (pg : Int32) (g : Int32) : Met l yPac_stepOf (.code yPac_stepOf cPac_stepOf 2 (some .float) :: TB) ({ frames := 0, cells := 0, slots := 0, locals := 0 }) (va_Pc [.ref h0, .int g] (cPre D cF cI [(h0, .inr (3, [.int pl, .int pg, .ref h1, .ref h2, .ref h3]))] sz)) (va_Qf (fun (r : UInt32) (_ : Unit) => r = f_step pl g) (cB D cF cI (va_A [(h0, .inr (3, [.int pl, .int pg, .ref h1, .ref h2, .ref h3]))] sz) (fun _ : Unit => [(h0, .inr (3, [.int pl, .int pg, .ref h1, .ref h2, .ref h3]))])) (va_A [(h0, .inr (3, [.int pl, .int pg, .ref h1, .ref h2, .ref h3]))] sz)) 0 0 (va_A [(h0, .inr (3, [.int pl, .int pg, .ref h1, .ref h2, .ref h3]))] sz) := by
  refine c_ofW (own := RPac) (by decide) rfl (fun p e s m below meth c hsz hx hb hr hml hown ht hlk hin hP hK hD hmb => ?_)
  subst hsz
  generalize hAe : va_A [(h0, .inr (3, [.int pl, .int pg, .ref h1, .ref h2, .ref h3]))] s.heap.size = A at hD ⊢
  have hA : ∀ q : Nat, s.heap.size ≤ q → A q := fun q h => by rw [← hAe]; exact Or.inr h
  have hS : va_S A s.heap s.heap [] := va_S.rf
  have hl := lv_entry ([.ref h0, .int g]) (n := 2) (Nat.le_of_ble_eq_true rfl)
  rw [lg_entry_eq]
  generalize (lg_sl ([.ref h0, .int g]) ++ List.replicate (2 - (lg_sl ([.ref h0, .int g])).length) Slot.unset).toArray = ls at hl ⊢
  have hl : lv_has ls 2 [(0, .ref h0), (1, .int g)] := hl
  refine lv_aload_n hx hb dPac_stepOf_0 rfl (lv_at hl 0 rfl) ?_
  refine va_get (D := D) (ci := 3) (v := .int pl) hx hb ht inPac hown hK hP 0 rfl rfl 0 (by decide) (ht _ kf_Pac_22) (fun _ h9 => h9) rfl dPac_stepOf_1 ?_
  refine lv_if_eq (tgt := 17) hx hb dPac_stepOf_4 (by decide) (fun c1 => ?_) (fun c1 => ?_)
  · refine lv_iconst (v := 1) hx hb dPac_stepOf_17 (by decide) ?_
    refine lv_iload_n hx hb dPac_stepOf_18 rfl (lv_at hl 1 rfl) ?_
    refine k_ishl (v := 1 <<< (g &&& 31)) hx hb dPac_stepOf_19 rfl ?_
    refine lv_i2f hx hb dPac_stepOf_20 ?_
    refine lv_ldcf (v := 1082130432) hx hb hown (ht _ kk_Pac_45) dPac_stepOf_21 ?_
    refine lv_fdiv hx hb dPac_stepOf_23 (fk_n (step_d _) (by decide)) ?_
    have hP := hP.sub (ws' := [(h0, .inr (3, [.int pl, .int pg, .ref h1, .ref h2, .ref h3]))]) [0] rfl
    have hD := hD.sub (ws' := [(h0, .inr (3, [.int pl, .int pg, .ref h1, .ref h2, .ref h3]))]) [0] (by decide) rfl
    exact e_f () hx hb hr hlk hK hP hD hS rfl (by unfold f_step; rw [if_pos c1]) dPac_stepOf_24
  · refine lv_bipush (v := 16) hx hb dPac_stepOf_7 (by decide) ?_
    refine lv_iload_n hx hb dPac_stepOf_9 rfl (lv_at hl 1 rfl) ?_
    refine k_imul (v := 16 * g) hx hb dPac_stepOf_10 rfl ?_
    refine lv_iconst (v := 1) hx hb dPac_stepOf_11 (by decide) ?_
    refine k_iadd (v := (16 * g) + 1) hx hb dPac_stepOf_12 rfl ?_
    refine lv_i2f hx hb dPac_stepOf_13 ?_
    refine lv_goto (tgt := 24) hx hb dPac_stepOf_14 (by decide) ?_
    have hP := hP.sub (ws' := [(h0, .inr (3, [.int pl, .int pg, .ref h1, .ref h2, .ref h3]))]) [0] rfl
    have hD := hD.sub (ws' := [(h0, .inr (3, [.int pl, .int pg, .ref h1, .ref h2, .ref h3]))]) [0] (by decide) rfl
    exact e_f () hx hb hr hlk hK hP hD hS rfl (by unfold f_step; rw [if_neg c1]) dPac_stepOf_24

set_option maxHeartbeats 4000000 in
set_option maxRecDepth 100000 in
theorem c_Pac_step (l : Launch) (D : va_G) (cF cI : ClassId) (sz : Nat) (h0 h1 h2 h3 : Nat) (pl : Int32) (pg : Int32) : Met l yPac_step (.code yPac_step cPac_step 1 (some .float) :: TB) ({ frames := 1, cells := 0, slots := 0, locals := 21 }) (va_Pc [.ref h0] (cPre D cF cI [(h0, .inr (3, [.int pl, .int pg, .ref h1, .ref h2, .ref h3]))] sz)) (va_Qf (fun (r : UInt32) (_ : Unit) => r = f_step pl pg) (cB D cF cI (va_A [(h0, .inr (3, [.int pl, .int pg, .ref h1, .ref h2, .ref h3]))] sz) (fun _ : Unit => [(h0, .inr (3, [.int pl, .int pg, .ref h1, .ref h2, .ref h3]))])) (va_A [(h0, .inr (3, [.int pl, .int pg, .ref h1, .ref h2, .ref h3]))] sz)) 0 0 (va_A [(h0, .inr (3, [.int pl, .int pg, .ref h1, .ref h2, .ref h3]))] sz) := by
  refine c_ofW (own := RPac) (by decide) rfl (fun p e s m below meth c hsz hx hb hr hml hown ht hlk hin hP hK hD hmb => ?_)
  subst hsz
  generalize hAe : va_A [(h0, .inr (3, [.int pl, .int pg, .ref h1, .ref h2, .ref h3]))] s.heap.size = A at hD ⊢
  have hA : ∀ q : Nat, s.heap.size ≤ q → A q := fun q h => by rw [← hAe]; exact Or.inr h
  have hS : va_S A s.heap s.heap [] := va_S.rf
  have hl := lv_entry ([.ref h0]) (n := 1) (Nat.le_of_ble_eq_true rfl)
  rw [lg_entry_eq]
  generalize (lg_sl ([.ref h0]) ++ List.replicate (1 - (lg_sl ([.ref h0])).length) Slot.unset).toArray = ls at hl ⊢
  have hl : lv_has ls 1 [(0, .ref h0)] := hl
  refine lv_aload_n hx hb dPac_step_0 rfl (lv_at hl 0 rfl) ?_
  refine lv_aload_n hx hb dPac_step_1 rfl (lv_at hl 0 rfl) ?_
  refine va_get (D := D) (ci := 3) (v := .int pg) hx hb ht inPac hown hK hP 0 rfl rfl 1 (by decide) (ht _ kf_Pac_26) (fun _ h9 => h9) rfl dPac_step_2 ?_
  refine q_f (wc := [(h0, .inr (3, [.int pl, .int pg, .ref h1, .ref h2, .ref h3]))]) (wr := []) [0] [] hK hP hD hS hA rfl rfl (by decide) (by decide) (va_runV (As := [.int pg]) (rest := []) ⟨hx, hb, hml, hown, ht⟩ (c_Pac_stepOf l D cF cI s.heap.size h0 h1 h2 h3 pl pg pg) (cwV 1 ht (g_V km_Pac_40 ki_Pac_stepOf kv_Pac_stepOf kI_Pac kc_Pac_stepOf) rfl rfl rfl (by decide +kernel) ⟨Nat.le_of_ble_eq_true rfl, Nat.le_of_ble_eq_true rfl⟩) (cPre_V (ci := 3) (q0 := 0) hK hmb (hP.sub (ws' := [(h0, .inr (3, [.int pl, .int pg, .ref h1, .ref h2, .ref h3]))]) [0] rfl) (hD.sub (ws' := [(h0, .inr (3, [.int pl, .int pg, .ref h1, .ref h2, .ref h3]))]) [0] (by decide) rfl) rfl rfl) rfl rfl hl.1 rfl (lv_room (Nat.le_of_ble_eq_true rfl)) dPac_step_5 ⟨Nat.le_of_ble_eq_true rfl, Nat.le_of_ble_eq_true rfl⟩) (fun r1 u2 H locs w3 hP hD hS => ?_)
  subst w3
  have hP : va_P D vwCl [(h0, .inr (3, [.int pl, .int pg, .ref h1, .ref h2, .ref h3]))] H := hP
  have hD : va_D A [(h0, .inr (3, [.int pl, .int pg, .ref h1, .ref h2, .ref h3]))] := hD
  have hP := hP.sub (ws' := [(h0, .inr (3, [.int pl, .int pg, .ref h1, .ref h2, .ref h3]))]) [0] rfl
  have hD := hD.sub (ws' := [(h0, .inr (3, [.int pl, .int pg, .ref h1, .ref h2, .ref h3]))]) [0] (by decide) rfl
  exact e_f () hx hb hr hlk hK hP hD hS rfl rfl dPac_step_8

set_option maxHeartbeats 4000000 in
set_option maxRecDepth 100000 in
theorem c_Pac_chooseStep (l : Launch) (D : va_G) (cF cI : ClassId) (sz : Nat) (h0 h1 h2 h3 : Nat) (pl : Int32) (pg : Int32) (most : UInt32) : Met l yPac_chooseStep (.code yPac_chooseStep cPac_chooseStep 3 none :: TB) ({ frames := 1, cells := 0, slots := 0, locals := 21 }) (va_Pc [.ref h0, .float most] (cPre D cF cI [(h0, .inr (3, [.int pl, .int pg, .ref h1, .ref h2, .ref h3]))] sz)) (va_Qv (fun _ : Unit => True) (cB D cF cI (va_A [(h0, .inr (3, [.int pl, .int pg, .ref h1, .ref h2, .ref h3]))] sz) (fun _ : Unit => [(h0, .inr (3, [.int pl, .int (f_sc pl most 15), .ref h1, .ref h2, .ref h3]))])) (va_A [(h0, .inr (3, [.int pl, .int pg, .ref h1, .ref h2, .ref h3]))] sz)) 0 0 (va_A [(h0, .inr (3, [.int pl, .int pg, .ref h1, .ref h2, .ref h3]))] sz) := by
  refine c_ofW (own := RPac) (by decide) rfl (fun p e s m below meth c hsz hx hb hr hml hown ht hlk hin hP hK hD hmb => ?_)
  subst hsz
  generalize hAe : va_A [(h0, .inr (3, [.int pl, .int pg, .ref h1, .ref h2, .ref h3]))] s.heap.size = A at hD ⊢
  have hA : ∀ q : Nat, s.heap.size ≤ q → A q := fun q h => by rw [← hAe]; exact Or.inr h
  have hS : va_S A s.heap s.heap [] := va_S.rf
  have hl := lv_entry ([.ref h0, .float most]) (n := 3) (Nat.le_of_ble_eq_true rfl)
  rw [lg_entry_eq]
  generalize (lg_sl ([.ref h0, .float most]) ++ List.replicate (3 - (lg_sl ([.ref h0, .float most])).length) Slot.unset).toArray = ls at hl ⊢
  have hl : lv_has ls 3 [(0, .ref h0), (1, .float most)] := hl
  refine lv_iconst (v := 0) hx hb dPac_chooseStep_0 (by decide) ?_
  refine lv_istore_n (lv' := [(2, .int 0), (0, .ref h0), (1, .float most)]) hx hb dPac_chooseStep_1 rfl hl (by decide) rfl (fun ls hl => ?_)
  have loop1 : ∀ (n i : Nat), i + n = 15 → f_sc pl most 15 = f_sc pl most n → ∀ (H : Heap) (locs : List Loc), va_P D vwCl [(h0, .inr (3, [.int pl, .int pg, .ref h1, .ref h2, .ref h3]))] H → va_D A [(h0, .inr (3, [.int pl, .int pg, .ref h1, .ref h2, .ref h3]))] → va_S A s.heap H locs → ∀ (ls : Array Slot), lv_has ls 3 [(2, .int (nI i)), (1, .float most), (0, .ref h0)] → W p l e ({ frames := 1, cells := 0, slots := 0, locals := 21 } : Room) s m ([.ref h0, .float most] : List Value).toArray below meth c H locs 0 0 (MQ below (va_Qv (fun _ : Unit => True) (cB D cF cI A (fun _ : Unit => [(h0, .inr (3, [.int pl, .int (f_sc pl most 15), .ref h1, .ref h2, .ref h3]))])) A) ([.ref h0, .float most] : List Value).toArray s 0 0 A) (F0 m 2 ls []) := by
    intro n
    induction n with
    | zero =>
      intro i hi hv H locs hP hD hS ls hl
      obtain rfl : 15 = i := by omega
      refine lv_iload_n hx hb dPac_chooseStep_2 rfl (lv_at hl 0 rfl) ?_
      refine lv_bipush (v := 15) hx hb dPac_chooseStep_3 (by decide) ?_
      refine lv_icmp_ge (tgt := 27) hx hb dPac_chooseStep_5 (by decide) (fun c1 => ?_) (fun c1 => ?_)
      · refine lv_aload_n hx hb dPac_chooseStep_27 rfl (lv_at hl 2 rfl) ?_
        refine lv_iload_n hx hb dPac_chooseStep_28 rfl (lv_at hl 0 rfl) ?_
        refine va_put (D := D) (ci := 3) (v := .int (nI 15)) (ty := .int) hx hb ht inPac tPac tPac_ok nPac hown hK hP hD hS 0 rfl rfl 1 (by decide) (ht _ kf_Pac_26) (fun _ h9 => h9) rfl (by decide +kernel) rfl rfl (Nat.le_of_ble_eq_true rfl) dPac_chooseStep_29 (fun H locs hP hD hS => ?_)
        have hP : va_P D vwCl [(h0, .inr (3, [.int pl, .int (nI 15), .ref h1, .ref h2, .ref h3]))] H := hP
        have hD : va_D A [(h0, .inr (3, [.int pl, .int (nI 15), .ref h1, .ref h2, .ref h3]))] := hD
        have hP := hP.sub (ws' := [(h0, .inr (3, [.int pl, .int (nI 15), .ref h1, .ref h2, .ref h3]))]) [0] rfl
        have hD := hD.sub (ws' := [(h0, .inr (3, [.int pl, .int (nI 15), .ref h1, .ref h2, .ref h3]))]) [0] (by decide) rfl
        exact e_v () hx hb hr hlk hK hP hD hS (by rw [hv]; rfl) trivial dPac_chooseStep_32
      · exact absurd (by decide) c1
    | succ n ih =>
      intro i hi hv H locs hP hD hS ls hl
      have hi1 : i < 15 := by omega
      refine lv_iload_n hx hb dPac_chooseStep_2 rfl (lv_at hl 0 rfl) ?_
      refine lv_bipush (v := 15) hx hb dPac_chooseStep_3 (by decide) ?_
      refine lv_icmp_ge (tgt := 27) hx hb dPac_chooseStep_5 (by decide) (fun c2 => ?_) (fun c2 => ?_)
      · exact absurd c2 (lt_up (N := 15) (by decide) hi1 (by decide))
      · refine lv_ldcf (v := 1077936128) hx hb hown (ht _ kk_Pac_44) dPac_chooseStep_8 ?_
        refine lv_aload_n hx hb dPac_chooseStep_10 rfl (lv_at hl 2 rfl) ?_
        refine lv_iload_n hx hb dPac_chooseStep_11 rfl (lv_at hl 0 rfl) ?_
        refine q_f (wc := [(h0, .inr (3, [.int pl, .int pg, .ref h1, .ref h2, .ref h3]))]) (wr := []) [0] [] hK hP hD hS hA rfl rfl (by decide) (by decide) (va_runV (As := [.int (nI i)]) (rest := [.float 1077936128]) ⟨hx, hb, hml, hown, ht⟩ (c_Pac_stepOf l D cF cI H.size h0 h1 h2 h3 pl pg (nI i)) (cwV 1 ht (g_V km_Pac_40 ki_Pac_stepOf kv_Pac_stepOf kI_Pac kc_Pac_stepOf) rfl rfl rfl (by decide +kernel) ⟨Nat.le_of_ble_eq_true rfl, Nat.le_of_ble_eq_true rfl⟩) (cPre_V (ci := 3) (q0 := 0) hK hmb (hP.sub (ws' := [(h0, .inr (3, [.int pl, .int pg, .ref h1, .ref h2, .ref h3]))]) [0] rfl) (hD.sub (ws' := [(h0, .inr (3, [.int pl, .int pg, .ref h1, .ref h2, .ref h3]))]) [0] (by decide) rfl) rfl rfl) rfl rfl hl.1 rfl (lv_room (Nat.le_of_ble_eq_true rfl)) dPac_chooseStep_12 ⟨Nat.le_of_ble_eq_true rfl, Nat.le_of_ble_eq_true rfl⟩) (fun r3 u4 H locs w5 hP hD hS => ?_)
        subst w5
        have hP : va_P D vwCl [(h0, .inr (3, [.int pl, .int pg, .ref h1, .ref h2, .ref h3]))] H := hP
        have hD : va_D A [(h0, .inr (3, [.int pl, .int pg, .ref h1, .ref h2, .ref h3]))] := hD
        refine lv_fmul hx hb dPac_chooseStep_15 (fk_n (fk_mul (show fk 129 1077936128 by unfold fk; decide) (step_k _ _) (by decide) (by decide)) (by decide)) ?_
        refine lv_fload_n hx hb dPac_chooseStep_16 rfl (lv_at hl 1 rfl) ?_
        refine lv_fcmp hx hb dPac_chooseStep_17 ?_
        refine lv_if_ge (tgt := 27) hx hb dPac_chooseStep_18 (by decide) (fun c6 => ?_) (fun c6 => ?_)
        · refine lv_aload_n hx hb dPac_chooseStep_27 rfl (lv_at hl 2 rfl) ?_
          refine lv_iload_n hx hb dPac_chooseStep_28 rfl (lv_at hl 0 rfl) ?_
          refine va_put (D := D) (ci := 3) (v := .int (nI i)) (ty := .int) hx hb ht inPac tPac tPac_ok nPac hown hK hP hD hS 0 rfl rfl 1 (by decide) (ht _ kf_Pac_26) (fun _ h9 => h9) rfl (by decide +kernel) rfl rfl (Nat.le_of_ble_eq_true rfl) dPac_chooseStep_29 (fun H locs hP hD hS => ?_)
          have hP : va_P D vwCl [(h0, .inr (3, [.int pl, .int (nI i), .ref h1, .ref h2, .ref h3]))] H := hP
          have hD : va_D A [(h0, .inr (3, [.int pl, .int (nI i), .ref h1, .ref h2, .ref h3]))] := hD
          have hP := hP.sub (ws' := [(h0, .inr (3, [.int pl, .int (nI i), .ref h1, .ref h2, .ref h3]))]) [0] rfl
          have hD := hD.sub (ws' := [(h0, .inr (3, [.int pl, .int (nI i), .ref h1, .ref h2, .ref h3]))]) [0] (by decide) rfl
          exact e_v () hx hb hr hlk hK hP hD hS (by rw [hv, sc_t hi c6]) trivial dPac_chooseStep_32
        · refine lv_iinc (v := nI (i + 1)) (lv' := [(2, .int (nI (i + 1))), (1, .float most), (0, .ref h0)]) hx hb dPac_chooseStep_21 hl (k := 0) rfl (nI_1 i) (by decide) rfl (fun ls hl => ?_)
          refine lv_goto (tgt := 2) hx hb dPac_chooseStep_24 (by decide) ?_
          exact ih (i + 1) (by omega) (by rw [hv, sc_f hi c6]) _ _ (hP.sub (ws' := [(h0, .inr (3, [.int pl, .int pg, .ref h1, .ref h2, .ref h3]))]) [0] rfl) (hD.sub (ws' := [(h0, .inr (3, [.int pl, .int pg, .ref h1, .ref h2, .ref h3]))]) [0] (by decide) rfl) hS ls (lv_sub hl [0, 1, 2] rfl)
  exact loop1 15 0 (by omega) rfl _ _ (hP.sub (ws' := [(h0, .inr (3, [.int pl, .int pg, .ref h1, .ref h2, .ref h3]))]) [0] rfl) (hD.sub (ws' := [(h0, .inr (3, [.int pl, .int pg, .ref h1, .ref h2, .ref h3]))]) [0] (by decide) rfl) hS ls (by have hl := lv_sub hl (l' := [(2, .int 0), (1, .float most), (0, .ref h0)]) [0, 2, 1] rfl; try rw [show (0 : Int32) = nI 0 from (by decide)] at hl; exact hl)

set_option maxHeartbeats 4000000 in
set_option maxRecDepth 100000 in
theorem c_Pac_takeCode_1 (l : Launch) (D : va_G) (cF cI : ClassId) (sz : Nat) (h0 h1 h2 h3 : Nat) (pl : Int32) (pg : Int32) (kc : Nat → Int32) (ww : Nat → UInt32) (kk : Int32) (hc : cOK kk) (hw9 : ∀ j, 1 ≤ j → j < 1 → fk 124 (ww j)) : Met l yPac_takeCode (.code yPac_takeCode cPac_takeCode 7 (some .float) :: TB) ({ frames := 0, cells := 0, slots := 0, locals := 0 }) (va_Pc [.ref h0, .int 1, .int kk] (cPre D cF cI [(h0, .inr (3, [.int pl, .int pg, .ref h1, .ref h2, .ref h3])), (h1, .inl (cI, 5, .inl kc)), (h2, .inl (cF, 5, .inr (.inr (.inl ww))))] sz)) (va_Qf (fun (r : UInt32) (_ : Unit) => r = f_q kk) (cB D cF cI (va_A [(h0, .inr (3, [.int pl, .int pg, .ref h1, .ref h2, .ref h3])), (h1, .inl (cI, 5, .inl kc)), (h2, .inl (cF, 5, .inr (.inr (.inl ww))))] sz) (fun _ : Unit => [(h0, .inr (3, [.int pl, .int pg, .ref h1, .ref h2, .ref h3])), (h1, .inl (cI, 5, .inl (upd kc 1 kk))), (h2, .inl (cF, 5, .inr (.inr (.inl (f_lev 1 ww (f_q kk))))))])) (va_A [(h0, .inr (3, [.int pl, .int pg, .ref h1, .ref h2, .ref h3])), (h1, .inl (cI, 5, .inl kc)), (h2, .inl (cF, 5, .inr (.inr (.inl ww))))] sz)) 0 0 (va_A [(h0, .inr (3, [.int pl, .int pg, .ref h1, .ref h2, .ref h3])), (h1, .inl (cI, 5, .inl kc)), (h2, .inl (cF, 5, .inr (.inr (.inl ww))))] sz) := by
  refine c_ofW (own := RPac) (by decide) rfl (fun p e s m below meth c hsz hx hb hr hml hown ht hlk hin hP hK hD hmb => ?_)
  subst hsz
  generalize hAe : va_A [(h0, .inr (3, [.int pl, .int pg, .ref h1, .ref h2, .ref h3])), (h1, .inl (cI, 5, .inl kc)), (h2, .inl (cF, 5, .inr (.inr (.inl ww))))] s.heap.size = A at hD ⊢
  have hA : ∀ q : Nat, s.heap.size ≤ q → A q := fun q h => by rw [← hAe]; exact Or.inr h
  have hS : va_S A s.heap s.heap [] := va_S.rf
  have hl := lv_entry ([.ref h0, .int 1, .int kk]) (n := 7) (Nat.le_of_ble_eq_true rfl)
  rw [lg_entry_eq]
  generalize (lg_sl ([.ref h0, .int 1, .int kk]) ++ List.replicate (7 - (lg_sl ([.ref h0, .int 1, .int kk])).length) Slot.unset).toArray = ls at hl ⊢
  have hl : lv_has ls 7 [(0, .ref h0), (1, .int 1), (2, .int kk)] := hl
  refine lv_iload_n hx hb dPac_takeCode_0 rfl (lv_at hl 2 rfl) ?_
  refine lv_i2f hx hb dPac_takeCode_1 ?_
  refine lv_ldcf (v := 1098907648) hx hb hown (ht _ kk_Pac_39) dPac_takeCode_2 ?_
  refine lv_fdiv hx hb dPac_takeCode_4 (q_n hc) ?_
  refine W.eq (g2 := F0 m 5 ls [.float (f_q kk)]) rfl ?_
  refine lv_fstore_n (lv' := [(3, .float (f_q kk)), (0, .ref h0), (1, .int 1), (2, .int kk)]) hx hb dPac_takeCode_5 rfl hl (by decide) rfl (fun ls hl => ?_)
  refine lv_iconst (v := 1) hx hb dPac_takeCode_6 (by decide) ?_
  refine lv_istore (lv' := [(4, .int 1), (3, .float (f_q kk)), (0, .ref h0), (1, .int 1), (2, .int kk)]) hx hb dPac_takeCode_7 hl (by decide) rfl (fun ls hl => ?_)
  refine lv_iload hx hb dPac_takeCode_9 (lv_at hl 0 rfl) ?_
  refine lv_iload_n hx hb dPac_takeCode_11 rfl (lv_at hl 3 rfl) ?_
  refine lv_iload hx hb dPac_takeCode_12 (lv_at hl 0 rfl) ?_
  refine k_isub (v := 0) hx hb dPac_takeCode_14 (by decide) ?_
  refine lv_icmp_gt (tgt := 74) hx hb dPac_takeCode_15 (by decide) (fun _ => ?_) (fun c9 => absurd (by decide) c9)
  refine lv_aload_n hx hb dPac_takeCode_74 rfl (lv_at hl 2 rfl) ?_
  refine va_get (D := D) (ci := 3) (v := .ref h1) hx hb ht inPac hown hK hP 0 rfl rfl 2 (by decide) (ht _ kf_Pac_9) (fun _ h9 => h9) rfl dPac_takeCode_75 ?_
  refine lv_iload_n hx hb dPac_takeCode_78 rfl (lv_at hl 3 rfl) ?_
  refine lv_iload_n hx hb dPac_takeCode_79 rfl (lv_at hl 4 rfl) ?_
  refine k_iast (j := 1) (f1 := upd kc 1 kk) hx hb hK hP hD hS 1 1 rfl rfl (by unfold vp_in; decide) rfl rfl dPac_takeCode_80 (fun H locs hP hD hS => ?_)
  have hP : va_P D vwCl [(h0, .inr (3, [.int pl, .int pg, .ref h1, .ref h2, .ref h3])), (h1, .inl (cI, 5, .inl (upd kc 1 kk))), (h2, .inl (cF, 5, .inr (.inr (.inl ww))))] H := hP
  have hD : va_D A [(h0, .inr (3, [.int pl, .int pg, .ref h1, .ref h2, .ref h3])), (h1, .inl (cI, 5, .inl (upd kc 1 kk))), (h2, .inl (cF, 5, .inr (.inr (.inl ww))))] := hD
  refine lv_aload_n hx hb dPac_takeCode_81 rfl (lv_at hl 2 rfl) ?_
  refine va_get (D := D) (ci := 3) (v := .ref h2) hx hb ht inPac hown hK hP 0 rfl rfl 3 (by decide) (ht _ kf_Pac_15) (fun _ h9 => h9) rfl dPac_takeCode_82 ?_
  refine lv_iload_n hx hb dPac_takeCode_85 rfl (lv_at hl 3 rfl) ?_
  refine lv_fload_n hx hb dPac_takeCode_86 rfl (lv_at hl 1 rfl) ?_
  refine k_fast (j := 1) (f1 := f_lev 1 ww (f_q kk)) hx hb hK hP hD hS 2 0 rfl rfl (by unfold vp_in; decide) rfl (tk_1 ww (f_q kk)) dPac_takeCode_87 (fun H locs hP hD hS => ?_)
  have hP : va_P D vwCl [(h0, .inr (3, [.int pl, .int pg, .ref h1, .ref h2, .ref h3])), (h1, .inl (cI, 5, .inl (upd kc 1 kk))), (h2, .inl (cF, 5, .inr (.inr (.inl (f_lev 1 ww (f_q kk))))))] H := hP
  have hD : va_D A [(h0, .inr (3, [.int pl, .int pg, .ref h1, .ref h2, .ref h3])), (h1, .inl (cI, 5, .inl (upd kc 1 kk))), (h2, .inl (cF, 5, .inr (.inr (.inl (f_lev 1 ww (f_q kk))))))] := hD
  refine lv_fload_n hx hb dPac_takeCode_88 rfl (lv_at hl 1 rfl) ?_
  have hP := hP.sub (ws' := [(h0, .inr (3, [.int pl, .int pg, .ref h1, .ref h2, .ref h3])), (h1, .inl (cI, 5, .inl (upd kc 1 kk))), (h2, .inl (cF, 5, .inr (.inr (.inl (f_lev 1 ww (f_q kk))))))]) [0, 1, 2] rfl
  have hD := hD.sub (ws' := [(h0, .inr (3, [.int pl, .int pg, .ref h1, .ref h2, .ref h3])), (h1, .inl (cI, 5, .inl (upd kc 1 kk))), (h2, .inl (cF, 5, .inr (.inr (.inl (f_lev 1 ww (f_q kk))))))]) [0, 1, 2] (by decide) rfl
  exact e_f () hx hb hr hlk hK hP hD hS rfl rfl dPac_takeCode_89

set_option maxHeartbeats 4000000 in
set_option maxRecDepth 100000 in
theorem c_Pac_takeCode_2 (l : Launch) (D : va_G) (cF cI : ClassId) (sz : Nat) (h0 h1 h2 h3 : Nat) (pl : Int32) (pg : Int32) (kc : Nat → Int32) (ww : Nat → UInt32) (kk : Int32) (hc : cOK kk) (hw9 : ∀ j, 1 ≤ j → j < 2 → fk 127 (ww j)) : Met l yPac_takeCode (.code yPac_takeCode cPac_takeCode 7 (some .float) :: TB) ({ frames := 0, cells := 0, slots := 0, locals := 0 }) (va_Pc [.ref h0, .int 2, .int kk] (cPre D cF cI [(h0, .inr (3, [.int pl, .int pg, .ref h1, .ref h2, .ref h3])), (h1, .inl (cI, 5, .inl kc)), (h2, .inl (cF, 5, .inr (.inr (.inl ww))))] sz)) (va_Qf (fun (r : UInt32) (_ : Unit) => r = f_q kk) (cB D cF cI (va_A [(h0, .inr (3, [.int pl, .int pg, .ref h1, .ref h2, .ref h3])), (h1, .inl (cI, 5, .inl kc)), (h2, .inl (cF, 5, .inr (.inr (.inl ww))))] sz) (fun _ : Unit => [(h0, .inr (3, [.int pl, .int pg, .ref h1, .ref h2, .ref h3])), (h1, .inl (cI, 5, .inl (upd kc 2 kk))), (h2, .inl (cF, 5, .inr (.inr (.inl (f_lev 2 ww (f_q kk))))))])) (va_A [(h0, .inr (3, [.int pl, .int pg, .ref h1, .ref h2, .ref h3])), (h1, .inl (cI, 5, .inl kc)), (h2, .inl (cF, 5, .inr (.inr (.inl ww))))] sz)) 0 0 (va_A [(h0, .inr (3, [.int pl, .int pg, .ref h1, .ref h2, .ref h3])), (h1, .inl (cI, 5, .inl kc)), (h2, .inl (cF, 5, .inr (.inr (.inl ww))))] sz) := by
  refine c_ofW (own := RPac) (by decide) rfl (fun p e s m below meth c hsz hx hb hr hml hown ht hlk hin hP hK hD hmb => ?_)
  subst hsz
  generalize hAe : va_A [(h0, .inr (3, [.int pl, .int pg, .ref h1, .ref h2, .ref h3])), (h1, .inl (cI, 5, .inl kc)), (h2, .inl (cF, 5, .inr (.inr (.inl ww))))] s.heap.size = A at hD ⊢
  have hA : ∀ q : Nat, s.heap.size ≤ q → A q := fun q h => by rw [← hAe]; exact Or.inr h
  have hS : va_S A s.heap s.heap [] := va_S.rf
  have hl := lv_entry ([.ref h0, .int 2, .int kk]) (n := 7) (Nat.le_of_ble_eq_true rfl)
  rw [lg_entry_eq]
  generalize (lg_sl ([.ref h0, .int 2, .int kk]) ++ List.replicate (7 - (lg_sl ([.ref h0, .int 2, .int kk])).length) Slot.unset).toArray = ls at hl ⊢
  have hl : lv_has ls 7 [(0, .ref h0), (1, .int 2), (2, .int kk)] := hl
  refine lv_iload_n hx hb dPac_takeCode_0 rfl (lv_at hl 2 rfl) ?_
  refine lv_i2f hx hb dPac_takeCode_1 ?_
  refine lv_ldcf (v := 1098907648) hx hb hown (ht _ kk_Pac_39) dPac_takeCode_2 ?_
  refine lv_fdiv hx hb dPac_takeCode_4 (q_n hc) ?_
  refine W.eq (g2 := F0 m 5 ls [.float (f_q kk)]) rfl ?_
  refine lv_fstore_n (lv' := [(3, .float (f_q kk)), (0, .ref h0), (1, .int 2), (2, .int kk)]) hx hb dPac_takeCode_5 rfl hl (by decide) rfl (fun ls hl => ?_)
  refine lv_iconst (v := 1) hx hb dPac_takeCode_6 (by decide) ?_
  refine lv_istore (lv' := [(4, .int 1), (3, .float (f_q kk)), (0, .ref h0), (1, .int 2), (2, .int kk)]) hx hb dPac_takeCode_7 hl (by decide) rfl (fun ls hl => ?_)
  refine lv_iload hx hb dPac_takeCode_9 (lv_at hl 0 rfl) ?_
  refine lv_iload_n hx hb dPac_takeCode_11 rfl (lv_at hl 3 rfl) ?_
  refine lv_iload hx hb dPac_takeCode_12 (lv_at hl 0 rfl) ?_
  refine k_isub (v := 1) hx hb dPac_takeCode_14 (by decide) ?_
  refine lv_icmp_gt (tgt := 74) hx hb dPac_takeCode_15 (by decide) (fun c9 => absurd c9 (by decide)) (fun _ => ?_)
  refine lv_aload_n hx hb dPac_takeCode_18 rfl (lv_at hl 2 rfl) ?_
  refine va_get (D := D) (ci := 3) (v := .ref h2) hx hb ht inPac hown hK hP 0 rfl rfl 3 (by decide) (ht _ kf_Pac_15) (fun _ h9 => h9) rfl dPac_takeCode_19 ?_
  refine lv_iload hx hb dPac_takeCode_22 (lv_at hl 0 rfl) ?_
  refine k_fald (j := 1) hx hb hK hP 2 0 rfl rfl (by unfold vp_in; decide) rfl dPac_takeCode_24 ?_
  refine lv_fstore (lv' := [(5, .float (ww 1)), (4, .int 1), (3, .float (f_q kk)), (0, .ref h0), (1, .int 2), (2, .int kk)]) hx hb dPac_takeCode_25 hl (by decide) rfl (fun ls hl => ?_)
  refine lv_aload_n hx hb dPac_takeCode_27 rfl (lv_at hl 3 rfl) ?_
  refine va_get (D := D) (ci := 3) (v := .ref h2) hx hb ht inPac hown hK hP 0 rfl rfl 3 (by decide) (ht _ kf_Pac_15) (fun _ h9 => h9) rfl dPac_takeCode_28 ?_
  refine lv_iload_n hx hb dPac_takeCode_31 rfl (lv_at hl 4 rfl) ?_
  refine lv_iload hx hb dPac_takeCode_32 (lv_at hl 1 rfl) ?_
  refine k_isub (v := 1) hx hb dPac_takeCode_34 (by decide) ?_
  refine k_fald (j := 1) hx hb hK hP 2 0 rfl rfl (by unfold vp_in; decide) rfl dPac_takeCode_35 ?_
  refine lv_fstore (lv' := [(6, .float (ww 1)), (5, .float (ww 1)), (4, .int 1), (3, .float (f_q kk)), (0, .ref h0), (1, .int 2), (2, .int kk)]) hx hb dPac_takeCode_36 hl (by decide) rfl (fun ls hl => ?_)
  refine lv_aload_n hx hb dPac_takeCode_38 rfl (lv_at hl 4 rfl) ?_
  refine va_get (D := D) (ci := 3) (v := .ref h2) hx hb ht inPac hown hK hP 0 rfl rfl 3 (by decide) (ht _ kf_Pac_15) (fun _ h9 => h9) rfl dPac_takeCode_39 ?_
  refine lv_iload hx hb dPac_takeCode_42 (lv_at hl 2 rfl) ?_
  refine lv_fload hx hb dPac_takeCode_44 (lv_at hl 1 rfl) ?_
  refine lv_fload_n hx hb dPac_takeCode_46 rfl (lv_at hl 3 rfl) ?_
  refine lv_fload hx hb dPac_takeCode_47 (lv_at hl 0 rfl) ?_
  refine lv_fmul hx hb dPac_takeCode_49 (fk_n (fk_mul (q_k hc) (hw9 1 (by decide) (by decide)) (by decide) (by decide)) (by decide)) ?_
  refine lv_fsub hx hb dPac_takeCode_50 (fk_n (fk_sub (K := 128) (fk_mono (hw9 1 (by decide) (by decide)) (by decide)) (fk_mono (fk_mul (q_k hc) (hw9 1 (by decide) (by decide)) (by decide) (by decide)) (by decide)) (by decide)) (by decide)) ?_
  refine k_fast (j := 1) (f1 := vf_upd ww 1 (FP.fsub (ww 1) (FP.fmul (f_q kk) (ww 1)))) hx hb hK hP hD hS 2 0 rfl rfl (by unfold vp_in; decide) rfl rfl dPac_takeCode_51 (fun H locs hP hD hS => ?_)
  have hP : va_P D vwCl [(h0, .inr (3, [.int pl, .int pg, .ref h1, .ref h2, .ref h3])), (h1, .inl (cI, 5, .inl kc)), (h2, .inl (cF, 5, .inr (.inr (.inl (vf_upd ww 1 (FP.fsub (ww 1) (FP.fmul (f_q kk) (ww 1))))))))] H := hP
  have hD : va_D A [(h0, .inr (3, [.int pl, .int pg, .ref h1, .ref h2, .ref h3])), (h1, .inl (cI, 5, .inl kc)), (h2, .inl (cF, 5, .inr (.inr (.inl (vf_upd ww 1 (FP.fsub (ww 1) (FP.fmul (f_q kk) (ww 1))))))))] := hD
  refine lv_aload_n hx hb dPac_takeCode_52 rfl (lv_at hl 4 rfl) ?_
  refine va_get (D := D) (ci := 3) (v := .ref h2) hx hb ht inPac hown hK hP 0 rfl rfl 3 (by decide) (ht _ kf_Pac_15) (fun _ h9 => h9) rfl dPac_takeCode_53 ?_
  refine lv_iload_n hx hb dPac_takeCode_56 rfl (lv_at hl 5 rfl) ?_
  refine lv_iload hx hb dPac_takeCode_57 (lv_at hl 2 rfl) ?_
  refine k_isub (v := 1) hx hb dPac_takeCode_59 (by decide) ?_
  refine lv_fload hx hb dPac_takeCode_60 (lv_at hl 0 rfl) ?_
  refine lv_fload_n hx hb dPac_takeCode_62 rfl (lv_at hl 3 rfl) ?_
  refine lv_fload hx hb dPac_takeCode_63 (lv_at hl 1 rfl) ?_
  refine lv_fmul hx hb dPac_takeCode_65 (fk_n (fk_mul (q_k hc) (hw9 1 (by decide) (by decide)) (by decide) (by decide)) (by decide)) ?_
  refine lv_fsub hx hb dPac_takeCode_66 (fk_n (fk_sub (K := 128) (fk_mono (hw9 1 (by decide) (by decide)) (by decide)) (fk_mono (fk_mul (q_k hc) (hw9 1 (by decide) (by decide)) (by decide) (by decide)) (by decide)) (by decide)) (by decide)) ?_
  refine k_fast (j := 1) (f1 := vf_upd (vf_upd ww 1 (FP.fsub (ww 1) (FP.fmul (f_q kk) (ww 1)))) 1 (FP.fsub (ww 1) (FP.fmul (f_q kk) (ww 1)))) hx hb hK hP hD hS 2 0 rfl rfl (by unfold vp_in; decide) rfl rfl dPac_takeCode_67 (fun H locs hP hD hS => ?_)
  have hP : va_P D vwCl [(h0, .inr (3, [.int pl, .int pg, .ref h1, .ref h2, .ref h3])), (h1, .inl (cI, 5, .inl kc)), (h2, .inl (cF, 5, .inr (.inr (.inl (vf_upd (vf_upd ww 1 (FP.fsub (ww 1) (FP.fmul (f_q kk) (ww 1)))) 1 (FP.fsub (ww 1) (FP.fmul (f_q kk) (ww 1))))))))] H := hP
  have hD : va_D A [(h0, .inr (3, [.int pl, .int pg, .ref h1, .ref h2, .ref h3])), (h1, .inl (cI, 5, .inl kc)), (h2, .inl (cF, 5, .inr (.inr (.inl (vf_upd (vf_upd ww 1 (FP.fsub (ww 1) (FP.fmul (f_q kk) (ww 1)))) 1 (FP.fsub (ww 1) (FP.fmul (f_q kk) (ww 1))))))))] := hD
  refine lv_iinc (v := 2) (lv' := [(4, .int 2), (6, .float (ww 1)), (5, .float (ww 1)), (3, .float (f_q kk)), (0, .ref h0), (1, .int 2), (2, .int kk)]) hx hb dPac_takeCode_68 hl (k := 2) rfl (by decide) (by decide) rfl (fun ls hl => ?_)
  refine lv_goto (tgt := 9) hx hb dPac_takeCode_71 (by decide) ?_
  refine lv_iload hx hb dPac_takeCode_9 (lv_at hl 0 rfl) ?_
  refine lv_iload_n hx hb dPac_takeCode_11 rfl (lv_at hl 5 rfl) ?_
  refine lv_iload hx hb dPac_takeCode_12 (lv_at hl 0 rfl) ?_
  refine k_isub (v := 0) hx hb dPac_takeCode_14 (by decide) ?_
  refine lv_icmp_gt (tgt := 74) hx hb dPac_takeCode_15 (by decide) (fun _ => ?_) (fun c9 => absurd (by decide) c9)
  refine lv_aload_n hx hb dPac_takeCode_74 rfl (lv_at hl 4 rfl) ?_
  refine va_get (D := D) (ci := 3) (v := .ref h1) hx hb ht inPac hown hK hP 0 rfl rfl 2 (by decide) (ht _ kf_Pac_9) (fun _ h9 => h9) rfl dPac_takeCode_75 ?_
  refine lv_iload_n hx hb dPac_takeCode_78 rfl (lv_at hl 5 rfl) ?_
  refine lv_iload_n hx hb dPac_takeCode_79 rfl (lv_at hl 6 rfl) ?_
  refine k_iast (j := 2) (f1 := upd kc 2 kk) hx hb hK hP hD hS 1 1 rfl rfl (by unfold vp_in; decide) rfl rfl dPac_takeCode_80 (fun H locs hP hD hS => ?_)
  have hP : va_P D vwCl [(h0, .inr (3, [.int pl, .int pg, .ref h1, .ref h2, .ref h3])), (h1, .inl (cI, 5, .inl (upd kc 2 kk))), (h2, .inl (cF, 5, .inr (.inr (.inl (vf_upd (vf_upd ww 1 (FP.fsub (ww 1) (FP.fmul (f_q kk) (ww 1)))) 1 (FP.fsub (ww 1) (FP.fmul (f_q kk) (ww 1))))))))] H := hP
  have hD : va_D A [(h0, .inr (3, [.int pl, .int pg, .ref h1, .ref h2, .ref h3])), (h1, .inl (cI, 5, .inl (upd kc 2 kk))), (h2, .inl (cF, 5, .inr (.inr (.inl (vf_upd (vf_upd ww 1 (FP.fsub (ww 1) (FP.fmul (f_q kk) (ww 1)))) 1 (FP.fsub (ww 1) (FP.fmul (f_q kk) (ww 1))))))))] := hD
  refine lv_aload_n hx hb dPac_takeCode_81 rfl (lv_at hl 4 rfl) ?_
  refine va_get (D := D) (ci := 3) (v := .ref h2) hx hb ht inPac hown hK hP 0 rfl rfl 3 (by decide) (ht _ kf_Pac_15) (fun _ h9 => h9) rfl dPac_takeCode_82 ?_
  refine lv_iload_n hx hb dPac_takeCode_85 rfl (lv_at hl 5 rfl) ?_
  refine lv_fload_n hx hb dPac_takeCode_86 rfl (lv_at hl 3 rfl) ?_
  refine k_fast (j := 2) (f1 := f_lev 2 ww (f_q kk)) hx hb hK hP hD hS 2 0 rfl rfl (by unfold vp_in; decide) rfl (tk_2 ww (f_q kk)) dPac_takeCode_87 (fun H locs hP hD hS => ?_)
  have hP : va_P D vwCl [(h0, .inr (3, [.int pl, .int pg, .ref h1, .ref h2, .ref h3])), (h1, .inl (cI, 5, .inl (upd kc 2 kk))), (h2, .inl (cF, 5, .inr (.inr (.inl (f_lev 2 ww (f_q kk))))))] H := hP
  have hD : va_D A [(h0, .inr (3, [.int pl, .int pg, .ref h1, .ref h2, .ref h3])), (h1, .inl (cI, 5, .inl (upd kc 2 kk))), (h2, .inl (cF, 5, .inr (.inr (.inl (f_lev 2 ww (f_q kk))))))] := hD
  refine lv_fload_n hx hb dPac_takeCode_88 rfl (lv_at hl 3 rfl) ?_
  have hP := hP.sub (ws' := [(h0, .inr (3, [.int pl, .int pg, .ref h1, .ref h2, .ref h3])), (h1, .inl (cI, 5, .inl (upd kc 2 kk))), (h2, .inl (cF, 5, .inr (.inr (.inl (f_lev 2 ww (f_q kk))))))]) [0, 1, 2] rfl
  have hD := hD.sub (ws' := [(h0, .inr (3, [.int pl, .int pg, .ref h1, .ref h2, .ref h3])), (h1, .inl (cI, 5, .inl (upd kc 2 kk))), (h2, .inl (cF, 5, .inr (.inr (.inl (f_lev 2 ww (f_q kk))))))]) [0, 1, 2] (by decide) rfl
  exact e_f () hx hb hr hlk hK hP hD hS rfl rfl dPac_takeCode_89

set_option maxHeartbeats 4000000 in
set_option maxRecDepth 100000 in
theorem c_Pac_takeCode_3 (l : Launch) (D : va_G) (cF cI : ClassId) (sz : Nat) (h0 h1 h2 h3 : Nat) (pl : Int32) (pg : Int32) (kc : Nat → Int32) (ww : Nat → UInt32) (kk : Int32) (hc : cOK kk) (hw9 : ∀ j, 1 ≤ j → j < 3 → fk 130 (ww j)) : Met l yPac_takeCode (.code yPac_takeCode cPac_takeCode 7 (some .float) :: TB) ({ frames := 0, cells := 0, slots := 0, locals := 0 }) (va_Pc [.ref h0, .int 3, .int kk] (cPre D cF cI [(h0, .inr (3, [.int pl, .int pg, .ref h1, .ref h2, .ref h3])), (h1, .inl (cI, 5, .inl kc)), (h2, .inl (cF, 5, .inr (.inr (.inl ww))))] sz)) (va_Qf (fun (r : UInt32) (_ : Unit) => r = f_q kk) (cB D cF cI (va_A [(h0, .inr (3, [.int pl, .int pg, .ref h1, .ref h2, .ref h3])), (h1, .inl (cI, 5, .inl kc)), (h2, .inl (cF, 5, .inr (.inr (.inl ww))))] sz) (fun _ : Unit => [(h0, .inr (3, [.int pl, .int pg, .ref h1, .ref h2, .ref h3])), (h1, .inl (cI, 5, .inl (upd kc 3 kk))), (h2, .inl (cF, 5, .inr (.inr (.inl (f_lev 3 ww (f_q kk))))))])) (va_A [(h0, .inr (3, [.int pl, .int pg, .ref h1, .ref h2, .ref h3])), (h1, .inl (cI, 5, .inl kc)), (h2, .inl (cF, 5, .inr (.inr (.inl ww))))] sz)) 0 0 (va_A [(h0, .inr (3, [.int pl, .int pg, .ref h1, .ref h2, .ref h3])), (h1, .inl (cI, 5, .inl kc)), (h2, .inl (cF, 5, .inr (.inr (.inl ww))))] sz) := by
  refine c_ofW (own := RPac) (by decide) rfl (fun p e s m below meth c hsz hx hb hr hml hown ht hlk hin hP hK hD hmb => ?_)
  subst hsz
  generalize hAe : va_A [(h0, .inr (3, [.int pl, .int pg, .ref h1, .ref h2, .ref h3])), (h1, .inl (cI, 5, .inl kc)), (h2, .inl (cF, 5, .inr (.inr (.inl ww))))] s.heap.size = A at hD ⊢
  have hA : ∀ q : Nat, s.heap.size ≤ q → A q := fun q h => by rw [← hAe]; exact Or.inr h
  have hS : va_S A s.heap s.heap [] := va_S.rf
  have hl := lv_entry ([.ref h0, .int 3, .int kk]) (n := 7) (Nat.le_of_ble_eq_true rfl)
  rw [lg_entry_eq]
  generalize (lg_sl ([.ref h0, .int 3, .int kk]) ++ List.replicate (7 - (lg_sl ([.ref h0, .int 3, .int kk])).length) Slot.unset).toArray = ls at hl ⊢
  have hl : lv_has ls 7 [(0, .ref h0), (1, .int 3), (2, .int kk)] := hl
  refine lv_iload_n hx hb dPac_takeCode_0 rfl (lv_at hl 2 rfl) ?_
  refine lv_i2f hx hb dPac_takeCode_1 ?_
  refine lv_ldcf (v := 1098907648) hx hb hown (ht _ kk_Pac_39) dPac_takeCode_2 ?_
  refine lv_fdiv hx hb dPac_takeCode_4 (q_n hc) ?_
  refine W.eq (g2 := F0 m 5 ls [.float (f_q kk)]) rfl ?_
  refine lv_fstore_n (lv' := [(3, .float (f_q kk)), (0, .ref h0), (1, .int 3), (2, .int kk)]) hx hb dPac_takeCode_5 rfl hl (by decide) rfl (fun ls hl => ?_)
  refine lv_iconst (v := 1) hx hb dPac_takeCode_6 (by decide) ?_
  refine lv_istore (lv' := [(4, .int 1), (3, .float (f_q kk)), (0, .ref h0), (1, .int 3), (2, .int kk)]) hx hb dPac_takeCode_7 hl (by decide) rfl (fun ls hl => ?_)
  refine lv_iload hx hb dPac_takeCode_9 (lv_at hl 0 rfl) ?_
  refine lv_iload_n hx hb dPac_takeCode_11 rfl (lv_at hl 3 rfl) ?_
  refine lv_iload hx hb dPac_takeCode_12 (lv_at hl 0 rfl) ?_
  refine k_isub (v := 2) hx hb dPac_takeCode_14 (by decide) ?_
  refine lv_icmp_gt (tgt := 74) hx hb dPac_takeCode_15 (by decide) (fun c9 => absurd c9 (by decide)) (fun _ => ?_)
  refine lv_aload_n hx hb dPac_takeCode_18 rfl (lv_at hl 2 rfl) ?_
  refine va_get (D := D) (ci := 3) (v := .ref h2) hx hb ht inPac hown hK hP 0 rfl rfl 3 (by decide) (ht _ kf_Pac_15) (fun _ h9 => h9) rfl dPac_takeCode_19 ?_
  refine lv_iload hx hb dPac_takeCode_22 (lv_at hl 0 rfl) ?_
  refine k_fald (j := 1) hx hb hK hP 2 0 rfl rfl (by unfold vp_in; decide) rfl dPac_takeCode_24 ?_
  refine lv_fstore (lv' := [(5, .float (ww 1)), (4, .int 1), (3, .float (f_q kk)), (0, .ref h0), (1, .int 3), (2, .int kk)]) hx hb dPac_takeCode_25 hl (by decide) rfl (fun ls hl => ?_)
  refine lv_aload_n hx hb dPac_takeCode_27 rfl (lv_at hl 3 rfl) ?_
  refine va_get (D := D) (ci := 3) (v := .ref h2) hx hb ht inPac hown hK hP 0 rfl rfl 3 (by decide) (ht _ kf_Pac_15) (fun _ h9 => h9) rfl dPac_takeCode_28 ?_
  refine lv_iload_n hx hb dPac_takeCode_31 rfl (lv_at hl 4 rfl) ?_
  refine lv_iload hx hb dPac_takeCode_32 (lv_at hl 1 rfl) ?_
  refine k_isub (v := 2) hx hb dPac_takeCode_34 (by decide) ?_
  refine k_fald (j := 2) hx hb hK hP 2 0 rfl rfl (by unfold vp_in; decide) rfl dPac_takeCode_35 ?_
  refine lv_fstore (lv' := [(6, .float (ww 2)), (5, .float (ww 1)), (4, .int 1), (3, .float (f_q kk)), (0, .ref h0), (1, .int 3), (2, .int kk)]) hx hb dPac_takeCode_36 hl (by decide) rfl (fun ls hl => ?_)
  refine lv_aload_n hx hb dPac_takeCode_38 rfl (lv_at hl 4 rfl) ?_
  refine va_get (D := D) (ci := 3) (v := .ref h2) hx hb ht inPac hown hK hP 0 rfl rfl 3 (by decide) (ht _ kf_Pac_15) (fun _ h9 => h9) rfl dPac_takeCode_39 ?_
  refine lv_iload hx hb dPac_takeCode_42 (lv_at hl 2 rfl) ?_
  refine lv_fload hx hb dPac_takeCode_44 (lv_at hl 1 rfl) ?_
  refine lv_fload_n hx hb dPac_takeCode_46 rfl (lv_at hl 3 rfl) ?_
  refine lv_fload hx hb dPac_takeCode_47 (lv_at hl 0 rfl) ?_
  refine lv_fmul hx hb dPac_takeCode_49 (fk_n (fk_mul (q_k hc) (hw9 2 (by decide) (by decide)) (by decide) (by decide)) (by decide)) ?_
  refine lv_fsub hx hb dPac_takeCode_50 (fk_n (fk_sub (K := 131) (fk_mono (hw9 1 (by decide) (by decide)) (by decide)) (fk_mono (fk_mul (q_k hc) (hw9 2 (by decide) (by decide)) (by decide) (by decide)) (by decide)) (by decide)) (by decide)) ?_
  refine k_fast (j := 1) (f1 := vf_upd ww 1 (FP.fsub (ww 1) (FP.fmul (f_q kk) (ww 2)))) hx hb hK hP hD hS 2 0 rfl rfl (by unfold vp_in; decide) rfl rfl dPac_takeCode_51 (fun H locs hP hD hS => ?_)
  have hP : va_P D vwCl [(h0, .inr (3, [.int pl, .int pg, .ref h1, .ref h2, .ref h3])), (h1, .inl (cI, 5, .inl kc)), (h2, .inl (cF, 5, .inr (.inr (.inl (vf_upd ww 1 (FP.fsub (ww 1) (FP.fmul (f_q kk) (ww 2))))))))] H := hP
  have hD : va_D A [(h0, .inr (3, [.int pl, .int pg, .ref h1, .ref h2, .ref h3])), (h1, .inl (cI, 5, .inl kc)), (h2, .inl (cF, 5, .inr (.inr (.inl (vf_upd ww 1 (FP.fsub (ww 1) (FP.fmul (f_q kk) (ww 2))))))))] := hD
  refine lv_aload_n hx hb dPac_takeCode_52 rfl (lv_at hl 4 rfl) ?_
  refine va_get (D := D) (ci := 3) (v := .ref h2) hx hb ht inPac hown hK hP 0 rfl rfl 3 (by decide) (ht _ kf_Pac_15) (fun _ h9 => h9) rfl dPac_takeCode_53 ?_
  refine lv_iload_n hx hb dPac_takeCode_56 rfl (lv_at hl 5 rfl) ?_
  refine lv_iload hx hb dPac_takeCode_57 (lv_at hl 2 rfl) ?_
  refine k_isub (v := 2) hx hb dPac_takeCode_59 (by decide) ?_
  refine lv_fload hx hb dPac_takeCode_60 (lv_at hl 0 rfl) ?_
  refine lv_fload_n hx hb dPac_takeCode_62 rfl (lv_at hl 3 rfl) ?_
  refine lv_fload hx hb dPac_takeCode_63 (lv_at hl 1 rfl) ?_
  refine lv_fmul hx hb dPac_takeCode_65 (fk_n (fk_mul (q_k hc) (hw9 1 (by decide) (by decide)) (by decide) (by decide)) (by decide)) ?_
  refine lv_fsub hx hb dPac_takeCode_66 (fk_n (fk_sub (K := 131) (fk_mono (hw9 2 (by decide) (by decide)) (by decide)) (fk_mono (fk_mul (q_k hc) (hw9 1 (by decide) (by decide)) (by decide) (by decide)) (by decide)) (by decide)) (by decide)) ?_
  refine k_fast (j := 2) (f1 := vf_upd (vf_upd ww 1 (FP.fsub (ww 1) (FP.fmul (f_q kk) (ww 2)))) 2 (FP.fsub (ww 2) (FP.fmul (f_q kk) (ww 1)))) hx hb hK hP hD hS 2 0 rfl rfl (by unfold vp_in; decide) rfl rfl dPac_takeCode_67 (fun H locs hP hD hS => ?_)
  have hP : va_P D vwCl [(h0, .inr (3, [.int pl, .int pg, .ref h1, .ref h2, .ref h3])), (h1, .inl (cI, 5, .inl kc)), (h2, .inl (cF, 5, .inr (.inr (.inl (vf_upd (vf_upd ww 1 (FP.fsub (ww 1) (FP.fmul (f_q kk) (ww 2)))) 2 (FP.fsub (ww 2) (FP.fmul (f_q kk) (ww 1))))))))] H := hP
  have hD : va_D A [(h0, .inr (3, [.int pl, .int pg, .ref h1, .ref h2, .ref h3])), (h1, .inl (cI, 5, .inl kc)), (h2, .inl (cF, 5, .inr (.inr (.inl (vf_upd (vf_upd ww 1 (FP.fsub (ww 1) (FP.fmul (f_q kk) (ww 2)))) 2 (FP.fsub (ww 2) (FP.fmul (f_q kk) (ww 1))))))))] := hD
  refine lv_iinc (v := 2) (lv' := [(4, .int 2), (6, .float (ww 2)), (5, .float (ww 1)), (3, .float (f_q kk)), (0, .ref h0), (1, .int 3), (2, .int kk)]) hx hb dPac_takeCode_68 hl (k := 2) rfl (by decide) (by decide) rfl (fun ls hl => ?_)
  refine lv_goto (tgt := 9) hx hb dPac_takeCode_71 (by decide) ?_
  refine lv_iload hx hb dPac_takeCode_9 (lv_at hl 0 rfl) ?_
  refine lv_iload_n hx hb dPac_takeCode_11 rfl (lv_at hl 5 rfl) ?_
  refine lv_iload hx hb dPac_takeCode_12 (lv_at hl 0 rfl) ?_
  refine k_isub (v := 1) hx hb dPac_takeCode_14 (by decide) ?_
  refine lv_icmp_gt (tgt := 74) hx hb dPac_takeCode_15 (by decide) (fun _ => ?_) (fun c9 => absurd (by decide) c9)
  refine lv_aload_n hx hb dPac_takeCode_74 rfl (lv_at hl 4 rfl) ?_
  refine va_get (D := D) (ci := 3) (v := .ref h1) hx hb ht inPac hown hK hP 0 rfl rfl 2 (by decide) (ht _ kf_Pac_9) (fun _ h9 => h9) rfl dPac_takeCode_75 ?_
  refine lv_iload_n hx hb dPac_takeCode_78 rfl (lv_at hl 5 rfl) ?_
  refine lv_iload_n hx hb dPac_takeCode_79 rfl (lv_at hl 6 rfl) ?_
  refine k_iast (j := 3) (f1 := upd kc 3 kk) hx hb hK hP hD hS 1 1 rfl rfl (by unfold vp_in; decide) rfl rfl dPac_takeCode_80 (fun H locs hP hD hS => ?_)
  have hP : va_P D vwCl [(h0, .inr (3, [.int pl, .int pg, .ref h1, .ref h2, .ref h3])), (h1, .inl (cI, 5, .inl (upd kc 3 kk))), (h2, .inl (cF, 5, .inr (.inr (.inl (vf_upd (vf_upd ww 1 (FP.fsub (ww 1) (FP.fmul (f_q kk) (ww 2)))) 2 (FP.fsub (ww 2) (FP.fmul (f_q kk) (ww 1))))))))] H := hP
  have hD : va_D A [(h0, .inr (3, [.int pl, .int pg, .ref h1, .ref h2, .ref h3])), (h1, .inl (cI, 5, .inl (upd kc 3 kk))), (h2, .inl (cF, 5, .inr (.inr (.inl (vf_upd (vf_upd ww 1 (FP.fsub (ww 1) (FP.fmul (f_q kk) (ww 2)))) 2 (FP.fsub (ww 2) (FP.fmul (f_q kk) (ww 1))))))))] := hD
  refine lv_aload_n hx hb dPac_takeCode_81 rfl (lv_at hl 4 rfl) ?_
  refine va_get (D := D) (ci := 3) (v := .ref h2) hx hb ht inPac hown hK hP 0 rfl rfl 3 (by decide) (ht _ kf_Pac_15) (fun _ h9 => h9) rfl dPac_takeCode_82 ?_
  refine lv_iload_n hx hb dPac_takeCode_85 rfl (lv_at hl 5 rfl) ?_
  refine lv_fload_n hx hb dPac_takeCode_86 rfl (lv_at hl 3 rfl) ?_
  refine k_fast (j := 3) (f1 := f_lev 3 ww (f_q kk)) hx hb hK hP hD hS 2 0 rfl rfl (by unfold vp_in; decide) rfl (tk_3 ww (f_q kk)) dPac_takeCode_87 (fun H locs hP hD hS => ?_)
  have hP : va_P D vwCl [(h0, .inr (3, [.int pl, .int pg, .ref h1, .ref h2, .ref h3])), (h1, .inl (cI, 5, .inl (upd kc 3 kk))), (h2, .inl (cF, 5, .inr (.inr (.inl (f_lev 3 ww (f_q kk))))))] H := hP
  have hD : va_D A [(h0, .inr (3, [.int pl, .int pg, .ref h1, .ref h2, .ref h3])), (h1, .inl (cI, 5, .inl (upd kc 3 kk))), (h2, .inl (cF, 5, .inr (.inr (.inl (f_lev 3 ww (f_q kk))))))] := hD
  refine lv_fload_n hx hb dPac_takeCode_88 rfl (lv_at hl 3 rfl) ?_
  have hP := hP.sub (ws' := [(h0, .inr (3, [.int pl, .int pg, .ref h1, .ref h2, .ref h3])), (h1, .inl (cI, 5, .inl (upd kc 3 kk))), (h2, .inl (cF, 5, .inr (.inr (.inl (f_lev 3 ww (f_q kk))))))]) [0, 1, 2] rfl
  have hD := hD.sub (ws' := [(h0, .inr (3, [.int pl, .int pg, .ref h1, .ref h2, .ref h3])), (h1, .inl (cI, 5, .inl (upd kc 3 kk))), (h2, .inl (cF, 5, .inr (.inr (.inl (f_lev 3 ww (f_q kk))))))]) [0, 1, 2] (by decide) rfl
  exact e_f () hx hb hr hlk hK hP hD hS rfl rfl dPac_takeCode_89

set_option maxHeartbeats 4000000 in
set_option maxRecDepth 100000 in
theorem c_Pac_takeCode_4 (l : Launch) (D : va_G) (cF cI : ClassId) (sz : Nat) (h0 h1 h2 h3 : Nat) (pl : Int32) (pg : Int32) (kc : Nat → Int32) (ww : Nat → UInt32) (kk : Int32) (hc : cOK kk) (hw9 : ∀ j, 1 ≤ j → j < 4 → fk 133 (ww j)) : Met l yPac_takeCode (.code yPac_takeCode cPac_takeCode 7 (some .float) :: TB) ({ frames := 0, cells := 0, slots := 0, locals := 0 }) (va_Pc [.ref h0, .int 4, .int kk] (cPre D cF cI [(h0, .inr (3, [.int pl, .int pg, .ref h1, .ref h2, .ref h3])), (h1, .inl (cI, 5, .inl kc)), (h2, .inl (cF, 5, .inr (.inr (.inl ww))))] sz)) (va_Qf (fun (r : UInt32) (_ : Unit) => r = f_q kk) (cB D cF cI (va_A [(h0, .inr (3, [.int pl, .int pg, .ref h1, .ref h2, .ref h3])), (h1, .inl (cI, 5, .inl kc)), (h2, .inl (cF, 5, .inr (.inr (.inl ww))))] sz) (fun _ : Unit => [(h0, .inr (3, [.int pl, .int pg, .ref h1, .ref h2, .ref h3])), (h1, .inl (cI, 5, .inl (upd kc 4 kk))), (h2, .inl (cF, 5, .inr (.inr (.inl (f_lev 4 ww (f_q kk))))))])) (va_A [(h0, .inr (3, [.int pl, .int pg, .ref h1, .ref h2, .ref h3])), (h1, .inl (cI, 5, .inl kc)), (h2, .inl (cF, 5, .inr (.inr (.inl ww))))] sz)) 0 0 (va_A [(h0, .inr (3, [.int pl, .int pg, .ref h1, .ref h2, .ref h3])), (h1, .inl (cI, 5, .inl kc)), (h2, .inl (cF, 5, .inr (.inr (.inl ww))))] sz) := by
  refine c_ofW (own := RPac) (by decide) rfl (fun p e s m below meth c hsz hx hb hr hml hown ht hlk hin hP hK hD hmb => ?_)
  subst hsz
  generalize hAe : va_A [(h0, .inr (3, [.int pl, .int pg, .ref h1, .ref h2, .ref h3])), (h1, .inl (cI, 5, .inl kc)), (h2, .inl (cF, 5, .inr (.inr (.inl ww))))] s.heap.size = A at hD ⊢
  have hA : ∀ q : Nat, s.heap.size ≤ q → A q := fun q h => by rw [← hAe]; exact Or.inr h
  have hS : va_S A s.heap s.heap [] := va_S.rf
  have hl := lv_entry ([.ref h0, .int 4, .int kk]) (n := 7) (Nat.le_of_ble_eq_true rfl)
  rw [lg_entry_eq]
  generalize (lg_sl ([.ref h0, .int 4, .int kk]) ++ List.replicate (7 - (lg_sl ([.ref h0, .int 4, .int kk])).length) Slot.unset).toArray = ls at hl ⊢
  have hl : lv_has ls 7 [(0, .ref h0), (1, .int 4), (2, .int kk)] := hl
  refine lv_iload_n hx hb dPac_takeCode_0 rfl (lv_at hl 2 rfl) ?_
  refine lv_i2f hx hb dPac_takeCode_1 ?_
  refine lv_ldcf (v := 1098907648) hx hb hown (ht _ kk_Pac_39) dPac_takeCode_2 ?_
  refine lv_fdiv hx hb dPac_takeCode_4 (q_n hc) ?_
  refine W.eq (g2 := F0 m 5 ls [.float (f_q kk)]) rfl ?_
  refine lv_fstore_n (lv' := [(3, .float (f_q kk)), (0, .ref h0), (1, .int 4), (2, .int kk)]) hx hb dPac_takeCode_5 rfl hl (by decide) rfl (fun ls hl => ?_)
  refine lv_iconst (v := 1) hx hb dPac_takeCode_6 (by decide) ?_
  refine lv_istore (lv' := [(4, .int 1), (3, .float (f_q kk)), (0, .ref h0), (1, .int 4), (2, .int kk)]) hx hb dPac_takeCode_7 hl (by decide) rfl (fun ls hl => ?_)
  refine lv_iload hx hb dPac_takeCode_9 (lv_at hl 0 rfl) ?_
  refine lv_iload_n hx hb dPac_takeCode_11 rfl (lv_at hl 3 rfl) ?_
  refine lv_iload hx hb dPac_takeCode_12 (lv_at hl 0 rfl) ?_
  refine k_isub (v := 3) hx hb dPac_takeCode_14 (by decide) ?_
  refine lv_icmp_gt (tgt := 74) hx hb dPac_takeCode_15 (by decide) (fun c9 => absurd c9 (by decide)) (fun _ => ?_)
  refine lv_aload_n hx hb dPac_takeCode_18 rfl (lv_at hl 2 rfl) ?_
  refine va_get (D := D) (ci := 3) (v := .ref h2) hx hb ht inPac hown hK hP 0 rfl rfl 3 (by decide) (ht _ kf_Pac_15) (fun _ h9 => h9) rfl dPac_takeCode_19 ?_
  refine lv_iload hx hb dPac_takeCode_22 (lv_at hl 0 rfl) ?_
  refine k_fald (j := 1) hx hb hK hP 2 0 rfl rfl (by unfold vp_in; decide) rfl dPac_takeCode_24 ?_
  refine lv_fstore (lv' := [(5, .float (ww 1)), (4, .int 1), (3, .float (f_q kk)), (0, .ref h0), (1, .int 4), (2, .int kk)]) hx hb dPac_takeCode_25 hl (by decide) rfl (fun ls hl => ?_)
  refine lv_aload_n hx hb dPac_takeCode_27 rfl (lv_at hl 3 rfl) ?_
  refine va_get (D := D) (ci := 3) (v := .ref h2) hx hb ht inPac hown hK hP 0 rfl rfl 3 (by decide) (ht _ kf_Pac_15) (fun _ h9 => h9) rfl dPac_takeCode_28 ?_
  refine lv_iload_n hx hb dPac_takeCode_31 rfl (lv_at hl 4 rfl) ?_
  refine lv_iload hx hb dPac_takeCode_32 (lv_at hl 1 rfl) ?_
  refine k_isub (v := 3) hx hb dPac_takeCode_34 (by decide) ?_
  refine k_fald (j := 3) hx hb hK hP 2 0 rfl rfl (by unfold vp_in; decide) rfl dPac_takeCode_35 ?_
  refine lv_fstore (lv' := [(6, .float (ww 3)), (5, .float (ww 1)), (4, .int 1), (3, .float (f_q kk)), (0, .ref h0), (1, .int 4), (2, .int kk)]) hx hb dPac_takeCode_36 hl (by decide) rfl (fun ls hl => ?_)
  refine lv_aload_n hx hb dPac_takeCode_38 rfl (lv_at hl 4 rfl) ?_
  refine va_get (D := D) (ci := 3) (v := .ref h2) hx hb ht inPac hown hK hP 0 rfl rfl 3 (by decide) (ht _ kf_Pac_15) (fun _ h9 => h9) rfl dPac_takeCode_39 ?_
  refine lv_iload hx hb dPac_takeCode_42 (lv_at hl 2 rfl) ?_
  refine lv_fload hx hb dPac_takeCode_44 (lv_at hl 1 rfl) ?_
  refine lv_fload_n hx hb dPac_takeCode_46 rfl (lv_at hl 3 rfl) ?_
  refine lv_fload hx hb dPac_takeCode_47 (lv_at hl 0 rfl) ?_
  refine lv_fmul hx hb dPac_takeCode_49 (fk_n (fk_mul (q_k hc) (hw9 3 (by decide) (by decide)) (by decide) (by decide)) (by decide)) ?_
  refine lv_fsub hx hb dPac_takeCode_50 (fk_n (fk_sub (K := 134) (fk_mono (hw9 1 (by decide) (by decide)) (by decide)) (fk_mono (fk_mul (q_k hc) (hw9 3 (by decide) (by decide)) (by decide) (by decide)) (by decide)) (by decide)) (by decide)) ?_
  refine k_fast (j := 1) (f1 := vf_upd ww 1 (FP.fsub (ww 1) (FP.fmul (f_q kk) (ww 3)))) hx hb hK hP hD hS 2 0 rfl rfl (by unfold vp_in; decide) rfl rfl dPac_takeCode_51 (fun H locs hP hD hS => ?_)
  have hP : va_P D vwCl [(h0, .inr (3, [.int pl, .int pg, .ref h1, .ref h2, .ref h3])), (h1, .inl (cI, 5, .inl kc)), (h2, .inl (cF, 5, .inr (.inr (.inl (vf_upd ww 1 (FP.fsub (ww 1) (FP.fmul (f_q kk) (ww 3))))))))] H := hP
  have hD : va_D A [(h0, .inr (3, [.int pl, .int pg, .ref h1, .ref h2, .ref h3])), (h1, .inl (cI, 5, .inl kc)), (h2, .inl (cF, 5, .inr (.inr (.inl (vf_upd ww 1 (FP.fsub (ww 1) (FP.fmul (f_q kk) (ww 3))))))))] := hD
  refine lv_aload_n hx hb dPac_takeCode_52 rfl (lv_at hl 4 rfl) ?_
  refine va_get (D := D) (ci := 3) (v := .ref h2) hx hb ht inPac hown hK hP 0 rfl rfl 3 (by decide) (ht _ kf_Pac_15) (fun _ h9 => h9) rfl dPac_takeCode_53 ?_
  refine lv_iload_n hx hb dPac_takeCode_56 rfl (lv_at hl 5 rfl) ?_
  refine lv_iload hx hb dPac_takeCode_57 (lv_at hl 2 rfl) ?_
  refine k_isub (v := 3) hx hb dPac_takeCode_59 (by decide) ?_
  refine lv_fload hx hb dPac_takeCode_60 (lv_at hl 0 rfl) ?_
  refine lv_fload_n hx hb dPac_takeCode_62 rfl (lv_at hl 3 rfl) ?_
  refine lv_fload hx hb dPac_takeCode_63 (lv_at hl 1 rfl) ?_
  refine lv_fmul hx hb dPac_takeCode_65 (fk_n (fk_mul (q_k hc) (hw9 1 (by decide) (by decide)) (by decide) (by decide)) (by decide)) ?_
  refine lv_fsub hx hb dPac_takeCode_66 (fk_n (fk_sub (K := 134) (fk_mono (hw9 3 (by decide) (by decide)) (by decide)) (fk_mono (fk_mul (q_k hc) (hw9 1 (by decide) (by decide)) (by decide) (by decide)) (by decide)) (by decide)) (by decide)) ?_
  refine k_fast (j := 3) (f1 := vf_upd (vf_upd ww 1 (FP.fsub (ww 1) (FP.fmul (f_q kk) (ww 3)))) 3 (FP.fsub (ww 3) (FP.fmul (f_q kk) (ww 1)))) hx hb hK hP hD hS 2 0 rfl rfl (by unfold vp_in; decide) rfl rfl dPac_takeCode_67 (fun H locs hP hD hS => ?_)
  have hP : va_P D vwCl [(h0, .inr (3, [.int pl, .int pg, .ref h1, .ref h2, .ref h3])), (h1, .inl (cI, 5, .inl kc)), (h2, .inl (cF, 5, .inr (.inr (.inl (vf_upd (vf_upd ww 1 (FP.fsub (ww 1) (FP.fmul (f_q kk) (ww 3)))) 3 (FP.fsub (ww 3) (FP.fmul (f_q kk) (ww 1))))))))] H := hP
  have hD : va_D A [(h0, .inr (3, [.int pl, .int pg, .ref h1, .ref h2, .ref h3])), (h1, .inl (cI, 5, .inl kc)), (h2, .inl (cF, 5, .inr (.inr (.inl (vf_upd (vf_upd ww 1 (FP.fsub (ww 1) (FP.fmul (f_q kk) (ww 3)))) 3 (FP.fsub (ww 3) (FP.fmul (f_q kk) (ww 1))))))))] := hD
  refine lv_iinc (v := 2) (lv' := [(4, .int 2), (6, .float (ww 3)), (5, .float (ww 1)), (3, .float (f_q kk)), (0, .ref h0), (1, .int 4), (2, .int kk)]) hx hb dPac_takeCode_68 hl (k := 2) rfl (by decide) (by decide) rfl (fun ls hl => ?_)
  refine lv_goto (tgt := 9) hx hb dPac_takeCode_71 (by decide) ?_
  refine lv_iload hx hb dPac_takeCode_9 (lv_at hl 0 rfl) ?_
  refine lv_iload_n hx hb dPac_takeCode_11 rfl (lv_at hl 5 rfl) ?_
  refine lv_iload hx hb dPac_takeCode_12 (lv_at hl 0 rfl) ?_
  refine k_isub (v := 2) hx hb dPac_takeCode_14 (by decide) ?_
  refine lv_icmp_gt (tgt := 74) hx hb dPac_takeCode_15 (by decide) (fun c9 => absurd c9 (by decide)) (fun _ => ?_)
  refine lv_aload_n hx hb dPac_takeCode_18 rfl (lv_at hl 4 rfl) ?_
  refine va_get (D := D) (ci := 3) (v := .ref h2) hx hb ht inPac hown hK hP 0 rfl rfl 3 (by decide) (ht _ kf_Pac_15) (fun _ h9 => h9) rfl dPac_takeCode_19 ?_
  refine lv_iload hx hb dPac_takeCode_22 (lv_at hl 0 rfl) ?_
  refine k_fald (j := 2) hx hb hK hP 2 0 rfl rfl (by unfold vp_in; decide) rfl dPac_takeCode_24 ?_
  refine W.eq (g2 := F0 m 25 ls [.float (ww 2)]) rfl ?_
  refine lv_fstore (lv' := [(5, .float (ww 2)), (4, .int 2), (6, .float (ww 3)), (3, .float (f_q kk)), (0, .ref h0), (1, .int 4), (2, .int kk)]) hx hb dPac_takeCode_25 hl (by decide) rfl (fun ls hl => ?_)
  refine lv_aload_n hx hb dPac_takeCode_27 rfl (lv_at hl 4 rfl) ?_
  refine va_get (D := D) (ci := 3) (v := .ref h2) hx hb ht inPac hown hK hP 0 rfl rfl 3 (by decide) (ht _ kf_Pac_15) (fun _ h9 => h9) rfl dPac_takeCode_28 ?_
  refine lv_iload_n hx hb dPac_takeCode_31 rfl (lv_at hl 5 rfl) ?_
  refine lv_iload hx hb dPac_takeCode_32 (lv_at hl 1 rfl) ?_
  refine k_isub (v := 2) hx hb dPac_takeCode_34 (by decide) ?_
  refine k_fald (j := 2) hx hb hK hP 2 0 rfl rfl (by unfold vp_in; decide) rfl dPac_takeCode_35 ?_
  refine W.eq (g2 := F0 m 36 ls [.float (ww 2)]) rfl ?_
  refine lv_fstore (lv' := [(6, .float (ww 2)), (5, .float (ww 2)), (4, .int 2), (3, .float (f_q kk)), (0, .ref h0), (1, .int 4), (2, .int kk)]) hx hb dPac_takeCode_36 hl (by decide) rfl (fun ls hl => ?_)
  refine lv_aload_n hx hb dPac_takeCode_38 rfl (lv_at hl 4 rfl) ?_
  refine va_get (D := D) (ci := 3) (v := .ref h2) hx hb ht inPac hown hK hP 0 rfl rfl 3 (by decide) (ht _ kf_Pac_15) (fun _ h9 => h9) rfl dPac_takeCode_39 ?_
  refine lv_iload hx hb dPac_takeCode_42 (lv_at hl 2 rfl) ?_
  refine lv_fload hx hb dPac_takeCode_44 (lv_at hl 1 rfl) ?_
  refine lv_fload_n hx hb dPac_takeCode_46 rfl (lv_at hl 3 rfl) ?_
  refine lv_fload hx hb dPac_takeCode_47 (lv_at hl 0 rfl) ?_
  refine lv_fmul hx hb dPac_takeCode_49 (fk_n (fk_mul (q_k hc) (hw9 2 (by decide) (by decide)) (by decide) (by decide)) (by decide)) ?_
  refine lv_fsub hx hb dPac_takeCode_50 (fk_n (fk_sub (K := 134) (fk_mono (hw9 2 (by decide) (by decide)) (by decide)) (fk_mono (fk_mul (q_k hc) (hw9 2 (by decide) (by decide)) (by decide) (by decide)) (by decide)) (by decide)) (by decide)) ?_
  refine k_fast (j := 2) (f1 := vf_upd (vf_upd (vf_upd ww 1 (FP.fsub (ww 1) (FP.fmul (f_q kk) (ww 3)))) 3 (FP.fsub (ww 3) (FP.fmul (f_q kk) (ww 1)))) 2 (FP.fsub (ww 2) (FP.fmul (f_q kk) (ww 2)))) hx hb hK hP hD hS 2 0 rfl rfl (by unfold vp_in; decide) rfl rfl dPac_takeCode_51 (fun H locs hP hD hS => ?_)
  have hP : va_P D vwCl [(h0, .inr (3, [.int pl, .int pg, .ref h1, .ref h2, .ref h3])), (h1, .inl (cI, 5, .inl kc)), (h2, .inl (cF, 5, .inr (.inr (.inl (vf_upd (vf_upd (vf_upd ww 1 (FP.fsub (ww 1) (FP.fmul (f_q kk) (ww 3)))) 3 (FP.fsub (ww 3) (FP.fmul (f_q kk) (ww 1)))) 2 (FP.fsub (ww 2) (FP.fmul (f_q kk) (ww 2))))))))] H := hP
  have hD : va_D A [(h0, .inr (3, [.int pl, .int pg, .ref h1, .ref h2, .ref h3])), (h1, .inl (cI, 5, .inl kc)), (h2, .inl (cF, 5, .inr (.inr (.inl (vf_upd (vf_upd (vf_upd ww 1 (FP.fsub (ww 1) (FP.fmul (f_q kk) (ww 3)))) 3 (FP.fsub (ww 3) (FP.fmul (f_q kk) (ww 1)))) 2 (FP.fsub (ww 2) (FP.fmul (f_q kk) (ww 2))))))))] := hD
  refine lv_aload_n hx hb dPac_takeCode_52 rfl (lv_at hl 4 rfl) ?_
  refine va_get (D := D) (ci := 3) (v := .ref h2) hx hb ht inPac hown hK hP 0 rfl rfl 3 (by decide) (ht _ kf_Pac_15) (fun _ h9 => h9) rfl dPac_takeCode_53 ?_
  refine lv_iload_n hx hb dPac_takeCode_56 rfl (lv_at hl 5 rfl) ?_
  refine lv_iload hx hb dPac_takeCode_57 (lv_at hl 2 rfl) ?_
  refine k_isub (v := 2) hx hb dPac_takeCode_59 (by decide) ?_
  refine lv_fload hx hb dPac_takeCode_60 (lv_at hl 0 rfl) ?_
  refine lv_fload_n hx hb dPac_takeCode_62 rfl (lv_at hl 3 rfl) ?_
  refine lv_fload hx hb dPac_takeCode_63 (lv_at hl 1 rfl) ?_
  refine lv_fmul hx hb dPac_takeCode_65 (fk_n (fk_mul (q_k hc) (hw9 2 (by decide) (by decide)) (by decide) (by decide)) (by decide)) ?_
  refine lv_fsub hx hb dPac_takeCode_66 (fk_n (fk_sub (K := 134) (fk_mono (hw9 2 (by decide) (by decide)) (by decide)) (fk_mono (fk_mul (q_k hc) (hw9 2 (by decide) (by decide)) (by decide) (by decide)) (by decide)) (by decide)) (by decide)) ?_
  refine k_fast (j := 2) (f1 := vf_upd (vf_upd (vf_upd (vf_upd ww 1 (FP.fsub (ww 1) (FP.fmul (f_q kk) (ww 3)))) 3 (FP.fsub (ww 3) (FP.fmul (f_q kk) (ww 1)))) 2 (FP.fsub (ww 2) (FP.fmul (f_q kk) (ww 2)))) 2 (FP.fsub (ww 2) (FP.fmul (f_q kk) (ww 2)))) hx hb hK hP hD hS 2 0 rfl rfl (by unfold vp_in; decide) rfl rfl dPac_takeCode_67 (fun H locs hP hD hS => ?_)
  have hP : va_P D vwCl [(h0, .inr (3, [.int pl, .int pg, .ref h1, .ref h2, .ref h3])), (h1, .inl (cI, 5, .inl kc)), (h2, .inl (cF, 5, .inr (.inr (.inl (vf_upd (vf_upd (vf_upd (vf_upd ww 1 (FP.fsub (ww 1) (FP.fmul (f_q kk) (ww 3)))) 3 (FP.fsub (ww 3) (FP.fmul (f_q kk) (ww 1)))) 2 (FP.fsub (ww 2) (FP.fmul (f_q kk) (ww 2)))) 2 (FP.fsub (ww 2) (FP.fmul (f_q kk) (ww 2))))))))] H := hP
  have hD : va_D A [(h0, .inr (3, [.int pl, .int pg, .ref h1, .ref h2, .ref h3])), (h1, .inl (cI, 5, .inl kc)), (h2, .inl (cF, 5, .inr (.inr (.inl (vf_upd (vf_upd (vf_upd (vf_upd ww 1 (FP.fsub (ww 1) (FP.fmul (f_q kk) (ww 3)))) 3 (FP.fsub (ww 3) (FP.fmul (f_q kk) (ww 1)))) 2 (FP.fsub (ww 2) (FP.fmul (f_q kk) (ww 2)))) 2 (FP.fsub (ww 2) (FP.fmul (f_q kk) (ww 2))))))))] := hD
  refine lv_iinc (v := 3) (lv' := [(4, .int 3), (6, .float (ww 2)), (5, .float (ww 2)), (3, .float (f_q kk)), (0, .ref h0), (1, .int 4), (2, .int kk)]) hx hb dPac_takeCode_68 hl (k := 2) rfl (by decide) (by decide) rfl (fun ls hl => ?_)
  refine lv_goto (tgt := 9) hx hb dPac_takeCode_71 (by decide) ?_
  refine lv_iload hx hb dPac_takeCode_9 (lv_at hl 0 rfl) ?_
  refine lv_iload_n hx hb dPac_takeCode_11 rfl (lv_at hl 5 rfl) ?_
  refine lv_iload hx hb dPac_takeCode_12 (lv_at hl 0 rfl) ?_
  refine k_isub (v := 1) hx hb dPac_takeCode_14 (by decide) ?_
  refine lv_icmp_gt (tgt := 74) hx hb dPac_takeCode_15 (by decide) (fun _ => ?_) (fun c9 => absurd (by decide) c9)
  refine lv_aload_n hx hb dPac_takeCode_74 rfl (lv_at hl 4 rfl) ?_
  refine va_get (D := D) (ci := 3) (v := .ref h1) hx hb ht inPac hown hK hP 0 rfl rfl 2 (by decide) (ht _ kf_Pac_9) (fun _ h9 => h9) rfl dPac_takeCode_75 ?_
  refine lv_iload_n hx hb dPac_takeCode_78 rfl (lv_at hl 5 rfl) ?_
  refine lv_iload_n hx hb dPac_takeCode_79 rfl (lv_at hl 6 rfl) ?_
  refine k_iast (j := 4) (f1 := upd kc 4 kk) hx hb hK hP hD hS 1 1 rfl rfl (by unfold vp_in; decide) rfl rfl dPac_takeCode_80 (fun H locs hP hD hS => ?_)
  have hP : va_P D vwCl [(h0, .inr (3, [.int pl, .int pg, .ref h1, .ref h2, .ref h3])), (h1, .inl (cI, 5, .inl (upd kc 4 kk))), (h2, .inl (cF, 5, .inr (.inr (.inl (vf_upd (vf_upd (vf_upd (vf_upd ww 1 (FP.fsub (ww 1) (FP.fmul (f_q kk) (ww 3)))) 3 (FP.fsub (ww 3) (FP.fmul (f_q kk) (ww 1)))) 2 (FP.fsub (ww 2) (FP.fmul (f_q kk) (ww 2)))) 2 (FP.fsub (ww 2) (FP.fmul (f_q kk) (ww 2))))))))] H := hP
  have hD : va_D A [(h0, .inr (3, [.int pl, .int pg, .ref h1, .ref h2, .ref h3])), (h1, .inl (cI, 5, .inl (upd kc 4 kk))), (h2, .inl (cF, 5, .inr (.inr (.inl (vf_upd (vf_upd (vf_upd (vf_upd ww 1 (FP.fsub (ww 1) (FP.fmul (f_q kk) (ww 3)))) 3 (FP.fsub (ww 3) (FP.fmul (f_q kk) (ww 1)))) 2 (FP.fsub (ww 2) (FP.fmul (f_q kk) (ww 2)))) 2 (FP.fsub (ww 2) (FP.fmul (f_q kk) (ww 2))))))))] := hD
  refine lv_aload_n hx hb dPac_takeCode_81 rfl (lv_at hl 4 rfl) ?_
  refine va_get (D := D) (ci := 3) (v := .ref h2) hx hb ht inPac hown hK hP 0 rfl rfl 3 (by decide) (ht _ kf_Pac_15) (fun _ h9 => h9) rfl dPac_takeCode_82 ?_
  refine lv_iload_n hx hb dPac_takeCode_85 rfl (lv_at hl 5 rfl) ?_
  refine lv_fload_n hx hb dPac_takeCode_86 rfl (lv_at hl 3 rfl) ?_
  refine k_fast (j := 4) (f1 := f_lev 4 ww (f_q kk)) hx hb hK hP hD hS 2 0 rfl rfl (by unfold vp_in; decide) rfl (tk_4 ww (f_q kk)) dPac_takeCode_87 (fun H locs hP hD hS => ?_)
  have hP : va_P D vwCl [(h0, .inr (3, [.int pl, .int pg, .ref h1, .ref h2, .ref h3])), (h1, .inl (cI, 5, .inl (upd kc 4 kk))), (h2, .inl (cF, 5, .inr (.inr (.inl (f_lev 4 ww (f_q kk))))))] H := hP
  have hD : va_D A [(h0, .inr (3, [.int pl, .int pg, .ref h1, .ref h2, .ref h3])), (h1, .inl (cI, 5, .inl (upd kc 4 kk))), (h2, .inl (cF, 5, .inr (.inr (.inl (f_lev 4 ww (f_q kk))))))] := hD
  refine lv_fload_n hx hb dPac_takeCode_88 rfl (lv_at hl 3 rfl) ?_
  have hP := hP.sub (ws' := [(h0, .inr (3, [.int pl, .int pg, .ref h1, .ref h2, .ref h3])), (h1, .inl (cI, 5, .inl (upd kc 4 kk))), (h2, .inl (cF, 5, .inr (.inr (.inl (f_lev 4 ww (f_q kk))))))]) [0, 1, 2] rfl
  have hD := hD.sub (ws' := [(h0, .inr (3, [.int pl, .int pg, .ref h1, .ref h2, .ref h3])), (h1, .inl (cI, 5, .inl (upd kc 4 kk))), (h2, .inl (cF, 5, .inr (.inr (.inl (f_lev 4 ww (f_q kk))))))]) [0, 1, 2] (by decide) rfl
  exact e_f () hx hb hr hlk hK hP hD hS rfl rfl dPac_takeCode_89

set_option maxHeartbeats 4000000 in
set_option maxRecDepth 100000 in
theorem c_Pac_greatestLevel (l : Launch) (D : va_G) (cF cI : ClassId) (sz : Nat) (h0 h1 h2 h3 : Nat) (pl : Int32) (pg : Int32) (ll : Nat → Int32) : Met l yPac_greatestLevel (.code yPac_greatestLevel cPac_greatestLevel 3 (some .int) :: TB) ({ frames := 1, cells := 0, slots := 0, locals := 21 }) (va_Pc [.ref h0] (cPre D cF cI [(h0, .inr (3, [.int pl, .int pg, .ref h1, .ref h2, .ref h3])), (h3, .inl (cI, 16, .inl ll))] sz)) (va_Qi (fun (r : Int32) (_ : Unit) => r = l_max ll 16) (cB D cF cI (va_A [(h0, .inr (3, [.int pl, .int pg, .ref h1, .ref h2, .ref h3])), (h3, .inl (cI, 16, .inl ll))] sz) (fun _ : Unit => [(h0, .inr (3, [.int pl, .int pg, .ref h1, .ref h2, .ref h3])), (h3, .inl (cI, 16, .inl ll))])) (va_A [(h0, .inr (3, [.int pl, .int pg, .ref h1, .ref h2, .ref h3])), (h3, .inl (cI, 16, .inl ll))] sz)) 0 0 (va_A [(h0, .inr (3, [.int pl, .int pg, .ref h1, .ref h2, .ref h3])), (h3, .inl (cI, 16, .inl ll))] sz) := by
  refine c_ofW (own := RPac) (by decide) rfl (fun p e s m below meth c hsz hx hb hr hml hown ht hlk hin hP hK hD hmb => ?_)
  subst hsz
  generalize hAe : va_A [(h0, .inr (3, [.int pl, .int pg, .ref h1, .ref h2, .ref h3])), (h3, .inl (cI, 16, .inl ll))] s.heap.size = A at hD ⊢
  have hA : ∀ q : Nat, s.heap.size ≤ q → A q := fun q h => by rw [← hAe]; exact Or.inr h
  have hS : va_S A s.heap s.heap [] := va_S.rf
  have hl := lv_entry ([.ref h0]) (n := 3) (Nat.le_of_ble_eq_true rfl)
  rw [lg_entry_eq]
  generalize (lg_sl ([.ref h0]) ++ List.replicate (3 - (lg_sl ([.ref h0])).length) Slot.unset).toArray = ls at hl ⊢
  have hl : lv_has ls 3 [(0, .ref h0)] := hl
  refine lv_iconst (v := 0) hx hb dPac_greatestLevel_0 (by decide) ?_
  refine lv_istore_n (lv' := [(1, .int 0), (0, .ref h0)]) hx hb dPac_greatestLevel_1 rfl hl (by decide) rfl (fun ls hl => ?_)
  refine lv_iconst (v := 0) hx hb dPac_greatestLevel_2 (by decide) ?_
  refine lv_istore_n (lv' := [(2, .int 0), (1, .int 0), (0, .ref h0)]) hx hb dPac_greatestLevel_3 rfl hl (by decide) rfl (fun ls hl => ?_)
  have loop : ∀ (n i : Nat), i + n = 16 → ∀ (H : Heap) (locs : List Loc), va_P D vwCl [(h0, .inr (3, [.int pl, .int pg, .ref h1, .ref h2, .ref h3])), (h3, .inl (cI, 16, .inl ll))] H → va_D A [(h0, .inr (3, [.int pl, .int pg, .ref h1, .ref h2, .ref h3])), (h3, .inl (cI, 16, .inl ll))] → va_S A s.heap H locs → ∀ (ls : Array Slot), lv_has ls 3 [(1, .int (l_max ll i)), (2, .int (nI i)), (0, .ref h0)] → W p l e ({ frames := 1, cells := 0, slots := 0, locals := 21 } : Room) s m ([.ref h0] : List Value).toArray below meth c H locs 0 0 (MQ below (va_Qi (fun (r : Int32) (_ : Unit) => r = l_max ll 16) (cB D cF cI A (fun _ : Unit => [(h0, .inr (3, [.int pl, .int pg, .ref h1, .ref h2, .ref h3])), (h3, .inl (cI, 16, .inl ll))])) A) ([.ref h0] : List Value).toArray s 0 0 A) (F0 m 4 ls []) := by
    intro n
    induction n with
    | zero =>
      intro i hi H locs hP hD hS ls hl
      obtain rfl : 16 = i := by omega
      refine lv_iload_n hx hb dPac_greatestLevel_4 rfl (lv_at hl 1 rfl) ?_
      refine lv_bipush (v := 16) hx hb dPac_greatestLevel_5 (by decide) ?_
      refine lv_icmp_ge (tgt := 30) hx hb dPac_greatestLevel_7 (by decide) (fun c1 => ?_) (fun c1 => ?_)
      · refine lv_iload_n hx hb dPac_greatestLevel_30 rfl (lv_at hl 0 rfl) ?_
        have hP := hP.sub (ws' := [(h0, .inr (3, [.int pl, .int pg, .ref h1, .ref h2, .ref h3])), (h3, .inl (cI, 16, .inl ll))]) [0, 1] rfl
        have hD := hD.sub (ws' := [(h0, .inr (3, [.int pl, .int pg, .ref h1, .ref h2, .ref h3])), (h3, .inl (cI, 16, .inl ll))]) [0, 1] (by decide) rfl
        exact e_i () hx hb hr hlk hK hP hD hS rfl rfl dPac_greatestLevel_31
      · exact absurd (by decide) c1
    | succ n ih =>
      intro i hi H locs hP hD hS ls hl
      have hi1 : i < 16 := by omega
      refine lv_iload_n hx hb dPac_greatestLevel_4 rfl (lv_at hl 1 rfl) ?_
      refine lv_bipush (v := 16) hx hb dPac_greatestLevel_5 (by decide) ?_
      refine lv_icmp_ge (tgt := 30) hx hb dPac_greatestLevel_7 (by decide) (fun c2 => ?_) (fun c2 => ?_)
      · exact absurd c2 (lt_up (N := 16) (by decide) hi1 (by decide))
      · refine lv_iload_n hx hb dPac_greatestLevel_10 rfl (lv_at hl 0 rfl) ?_
        refine lv_aload_n hx hb dPac_greatestLevel_11 rfl (lv_at hl 2 rfl) ?_
        refine va_get (D := D) (ci := 3) (v := .ref h3) hx hb ht inPac hown hK hP 0 rfl rfl 4 (by decide) (ht _ kf_Pac_19) (fun _ h9 => h9) rfl dPac_greatestLevel_12 ?_
        refine lv_iload_n hx hb dPac_greatestLevel_15 rfl (lv_at hl 1 rfl) ?_
        refine k_iald (j := i) hx hb hK hP 1 1 rfl rfl (vp_in_nI (by omega) (by decide)) (nI_clamp (by omega)) dPac_greatestLevel_16 ?_
        refine va_mabs hx hb (hml.trans hl.1.symm) hown (ht _ km_Pac_46) (ht _ ks_Math_abs) (ht _ kI_Mat) (ht _ kc_Math_abs) (Nat.le_of_ble_eq_true rfl) (Nat.le_of_ble_eq_true rfl) (Nat.le_of_ble_eq_true rfl) (Nat.le_of_ble_eq_true rfl) dPac_greatestLevel_17 ?_
        refine va_mmax hx hb (hml.trans hl.1.symm) hown (ht _ km_Pac_52) (ht _ ks_Math_max) (ht _ kI_Mat) (ht _ kc_Math_max) (Nat.le_of_ble_eq_true rfl) (Nat.le_of_ble_eq_true rfl) (Nat.le_of_ble_eq_true rfl) (Nat.le_of_ble_eq_true rfl) dPac_greatestLevel_20 ?_
        refine W.eq (g2 := F0 m 23 ls [.int (l_max ll (i + 1))]) rfl ?_
        refine lv_istore_n (lv' := [(1, .int (l_max ll (i + 1))), (2, .int (nI i)), (0, .ref h0)]) hx hb dPac_greatestLevel_23 rfl hl (by decide) rfl (fun ls hl => ?_)
        refine lv_iinc (v := nI (i + 1)) (lv' := [(2, .int (nI (i + 1))), (1, .int (l_max ll (i + 1))), (0, .ref h0)]) hx hb dPac_greatestLevel_24 hl (k := 1) rfl (nI_1 i) (by decide) rfl (fun ls hl => ?_)
        refine lv_goto (tgt := 4) hx hb dPac_greatestLevel_27 (by decide) ?_
        exact ih (i + 1) (by omega)  _ _ (hP.sub (ws' := [(h0, .inr (3, [.int pl, .int pg, .ref h1, .ref h2, .ref h3])), (h3, .inl (cI, 16, .inl ll))]) [0, 1] rfl) (hD.sub (ws' := [(h0, .inr (3, [.int pl, .int pg, .ref h1, .ref h2, .ref h3])), (h3, .inl (cI, 16, .inl ll))]) [0, 1] (by decide) rfl) hS ls (lv_sub hl [1, 0, 2] rfl)
  exact loop 16 0 (by omega)  _ _ (hP.sub (ws' := [(h0, .inr (3, [.int pl, .int pg, .ref h1, .ref h2, .ref h3])), (h3, .inl (cI, 16, .inl ll))]) [0, 1] rfl) (hD.sub (ws' := [(h0, .inr (3, [.int pl, .int pg, .ref h1, .ref h2, .ref h3])), (h3, .inl (cI, 16, .inl ll))]) [0, 1] (by decide) rfl) hS ls (by have hl := lv_sub hl (l' := [(1, .int 0), (2, .int 0), (0, .ref h0)]) [1, 0, 2] rfl; try rw [show (0 : Int32) = nI 0 from (by decide)] at hl; exact hl)
