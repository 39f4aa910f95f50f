/-! CODER: no NaN -/
theorem nan_of {a : UInt32} (h : vf_n32 a) : Jvm.FP.Core.fIsNaN a = false := by
  rw [Jvm.FP.Core.notNaN_iff32, Jvm.FP.Core.ne_nan32]
  unfold vf_n32 at h
  rw [UInt32.le_iff_toNat_le, Jvm.FP.Core.mask_toNat32] at h
  exact h
theorem fin_half : Jvm.FP.Core.FFin 1056964608 := fk_fin (K := 127) (show fk 127 1056964608 by unfold fk; decide) (by decide)
theorem n_r1 {v : UInt32} (h : vf_n32 v) : vf_n32 (FP.fsub v 1056964608) := n_of_nan (Jvm.FP.Core.fsub_out (nan_of h) fin_half)
theorem n_r2 {v : UInt32} (h : vf_n32 v) : vf_n32 (FP.fadd v 1056964608) := n_of_nan (Jvm.FP.Core.fadd_out (nan_of h) fin_half)
theorem cmp_zero {w : UInt32} (h : ¬ Op.cmpValue (FP.fcmp w FP.fconst0) .l = 0) : ¬ Jvm.FP.Core.FZero w := by
  intro hz
  apply h
  have e : FP.fcmp w FP.fconst0 = some .eq := Jvm.FP.Core.zero_iff32.mpr hz
  rw [e]; rfl
theorem n_quo {K K2 : Nat} {v w : UInt32} (hv : fk K v) (hw : fk K2 w) (hK : K ≤ 255) (hK2 : K2 ≤ 255) (h : ¬ Op.cmpValue (FP.fcmp w FP.fconst0) .l = 0) : vf_n32 (FP.fdiv v w) :=
  n_of_nan (Jvm.FP.Core.fdiv_out (fk_fin hv hK).notNaN (fk_fin hw hK2) (cmp_zero h))
theorem n_fq {K K2 : Nat} {v w : UInt32} (hv : fk K v) (hw : fk K2 w) (hK : K ≤ 255) (hK2 : K2 ≤ 255) : vf_n32 (f_quo v w) := by
  unfold f_quo; split
  · exact fk_n (K := 1) (show fk 1 FP.fconst0 by unfold fk; decide) (by decide)
  · rename_i h; exact n_quo hv hw hK hK2 h
theorem n_16 {v : UInt32} (h : vf_n32 v) : vf_n32 (FP.fmul v 1098907648) := n_of_nan (Jvm.FP.Core.fmul_out' (nan_of h) (fk_fin (K := 132) (show fk 132 1098907648 by unfold fk; decide) (by decide)) (fg_zero (L := 131) (show fg 131 1098907648 by unfold fg; decide) (by decide)))
theorem clamp_in {lo hi x : Int32} (h : lo.toInt ≤ hi.toInt) : lo.toInt ≤ (i_clamp lo hi x).toInt ∧ (i_clamp lo hi x).toInt ≤ hi.toInt := by
  unfold i_clamp
  by_cases h1 : x < hi
  · rw [if_pos h1]
    rw [Int32.lt_iff_toInt_lt] at h1
    by_cases h2 : lo < x
    · rw [if_pos h2]; rw [Int32.lt_iff_toInt_lt] at h2; omega
    · rw [if_neg h2]; omega
  · rw [if_neg h1]
    by_cases h2 : lo < hi
    · rw [if_pos h2]; omega
    · rw [if_neg h2]; omega
theorem rnd_ok (v : UInt32) : cOK (f_rnd v (-15) 15) := by
  have h := clamp_in (lo := -15) (hi := 15) (x := FP.f2i (f_mid v)) (by decide)
  have e1 : (-15 : Int32).toInt = -15 := by decide
  have e2 : (15 : Int32).toInt = 15 := by decide
  rw [e1, e2] at h
  show cOK (i_clamp (-15) 15 (FP.f2i (f_mid v)))
  generalize i_clamp (-15) 15 (FP.f2i (f_mid v)) = y at h
  refine ⟨(y.toInt + 15).toNat, by omega, ?_⟩
  apply Int32.toInt_inj.mp
  have e3 : (15 : Int32) = nI 15 := by decide
  rw [e3, pk_sub_toInt (by omega) (by decide)]
  omega
theorem clip_k {v : UInt32} (h : vf_n32 v) : fk 143 (f_clip v) := by
  have hn : Jvm.FP.Core.val32 v ≠ .nan := (Jvm.FP.Core.notNaN_iff32 v).mp (nan_of h)
  unfold f_clip
  by_cases h1 : 0 ≤ Op.cmpValue (FP.fcmp v 3338665984) .g
  · rw [if_pos h1]
    by_cases h2 : Op.cmpValue (FP.fcmp v 1191181824) .l ≤ 0
    · rw [if_pos h2]
      have ha : Jvm.FP.Core.val32 3338665984 ≠ .nan := (Jvm.FP.Core.ne_nan32 _).mpr (by decide)
      have hb : Jvm.FP.Core.val32 1191181824 ≠ .nan := (Jvm.FP.Core.ne_nan32 _).mpr (by decide)
      have z1 : Jvm.FP.Core.zval Jvm.FP.Core.b32 (Jvm.FP.Core.val32 3338665984) = -((32768 : Int) * (Jvm.FP.Core.one32 : Int)) := by decide +kernel
      have z2 : Jvm.FP.Core.zval Jvm.FP.Core.b32 (Jvm.FP.Core.val32 1191181824) = (32767 : Int) * (Jvm.FP.Core.one32 : Int) := by decide +kernel
      have hp : (0 : Int) < (Jvm.FP.Core.one32 : Int) := by have := Jvm.FP.Core.one32_pos; omega
      have c1 := Jvm.FP.Core.fcmp_zval hn ha
      have c2 := Jvm.FP.Core.fcmp_zval hn hb
      rw [show FP.fcmp v 3338665984 = _ from c1] at h1
      rw [show FP.fcmp v 1191181824 = _ from c2] at h2
      rw [z1] at h1
      rw [z2] at h2
      refine fk_range hn ?_ ?_
      · rcases Int.lt_or_le (Jvm.FP.Core.zval Jvm.FP.Core.b32 (Jvm.FP.Core.val32 v)) (-((32768 : Int) * (Jvm.FP.Core.one32 : Int))) with q | q
        · rw [(Jvm.FP.Core.compare_lt_iff _ _).mpr q] at h1
          exact absurd h1 (by decide)
        · exact q
      · rcases Int.lt_or_le ((32767 : Int) * (Jvm.FP.Core.one32 : Int)) (Jvm.FP.Core.zval Jvm.FP.Core.b32 (Jvm.FP.Core.val32 v)) with q | q
        · rw [(Jvm.FP.Core.compare_gt_iff _ _).mpr q] at h2
          exact absurd h2 (by decide)
        · omega
    · rw [if_neg h2]; unfold fk; decide
  · rw [if_neg h1]; unfold fk; decide
/-! likeness -/
def f_ac (xx : Nat → UInt32) (k : Nat) : Nat → UInt32
  | 0 => FP.fconst0
  | i + 1 => if k ≤ i then FP.fadd (f_ac xx k i) (FP.fmul (xx i) (xx (i - k))) else FP.fconst0
theorem f_ac_k (xx : Nat → UInt32) (k : Nat) : f_ac xx k k = FP.fconst0 := by
  cases k with
  | zero => rfl
  | succ j => exact if_neg (by omega)
theorem f_ac_s {xx : Nat → UInt32} {k i : Nat} (h : k ≤ i) : FP.fadd (f_ac xx k i) (FP.fmul (xx i) (xx (i - k))) = f_ac xx k (i + 1) := (if_pos h).symm
theorem ac_k {xx : Nat → UInt32} (hx9 : ∀ j, fk 143 (xx j)) (k : Nat) : ∀ i, i ≤ 16 → fk (160 + 2 * i) (f_ac xx k i) := by
  intro i
  induction i with
  | zero => intro _; exact fk_mono (K := 1) (show fk 1 FP.fconst0 by unfold fk; decide) (by omega)
  | succ i ih =>
    intro h
    show fk (160 + 2 * (i + 1)) (if k ≤ i then FP.fadd (f_ac xx k i) (FP.fmul (xx i) (xx (i - k))) else FP.fconst0)
    split
    · exact fk_add (K := 160 + 2 * i) (ih (by omega)) (fk_mono (fk_mul (hx9 _) (hx9 _) (by decide) (by decide)) (by omega)) (by omega)
    · exact fk_mono (K := 1) (show fk 1 FP.fconst0 by unfold fk; decide) (by omega)
theorem sub_lit {i k : Nat} {M : Int32} (hM : M = nI k) (h : k ≤ i) : nI i - M = nI (i - k) := by subst hM; exact pk_sub h
theorem nl_of {i j : Nat} {J : Int32} (hJ : J = nI j) (h : ¬ nI i < J) (hi : i < 2147483648) (hj : j < 2147483648) : j ≤ i := by
  subst hJ
  rcases Nat.lt_or_ge i j with q | q
  · exact absurd (nI_lt q hj) h
  · exact q
def f_like (rr xx : Nat → UInt32) : Nat → UInt32 := vf_upd (vf_upd (vf_upd (vf_upd (vf_upd rr 0 (f_ac xx 0 16)) 1 (f_ac xx 1 16)) 2 (f_ac xx 2 16)) 3 (f_ac xx 3 16)) 4 (f_ac xx 4 16)
def m_size (r0 : UInt32) : Int32 := if 0 ≤ Op.cmpValue (FP.fcmp r0 FP.fconst1) .g then 14 else 1
/-! codes -/
def c_k (sv ev : UInt32) : Int32 := f_rnd (FP.fmul (f_quo sv ev) 1098907648) (-15) 15
def c_e (ev q : UInt32) : UInt32 := FP.fmul ev (FP.fsub FP.fconst1 (FP.fmul q q))
def cK1 (rr : Nat → UInt32) : Int32 := c_k (rr 1) (rr 0)
def cE1 (rr : Nat → UInt32) : UInt32 := c_e (rr 0) (f_q (cK1 rr))
def cW1 (ww rr : Nat → UInt32) : Nat → UInt32 := f_lev 1 ww (f_q (cK1 rr))
def cK2 (ww rr : Nat → UInt32) : Int32 := c_k (FP.fsub (rr 2) (FP.fmul (cW1 ww rr 1) (rr 1))) (cE1 rr)
def cE2 (ww rr : Nat → UInt32) : UInt32 := c_e (cE1 rr) (f_q (cK2 ww rr))
def cW2 (ww rr : Nat → UInt32) : Nat → UInt32 := f_lev 2 (cW1 ww rr) (f_q (cK2 ww rr))
def cK3 (ww rr : Nat → UInt32) : Int32 := c_k (FP.fsub (FP.fsub (rr 3) (FP.fmul (cW2 ww rr 1) (rr 2))) (FP.fmul (cW2 ww rr 2) (rr 1))) (cE2 ww rr)
def cE3 (ww rr : Nat → UInt32) : UInt32 := c_e (cE2 ww rr) (f_q (cK3 ww rr))
def cW3 (ww rr : Nat → UInt32) : Nat → UInt32 := f_lev 3 (cW2 ww rr) (f_q (cK3 ww rr))
def cK4 (ww rr : Nat → UInt32) : Int32 := c_k (FP.fsub (FP.fsub (FP.fsub (rr 4) (FP.fmul (cW3 ww rr 1) (rr 3))) (FP.fmul (cW3 ww rr 2) (rr 2))) (FP.fmul (cW3 ww rr 3) (rr 1))) (cE3 ww rr)
/-! rest -/
def rq0 : UInt32 := FP.fconst0
def rq1 (ww xx : Nat → UInt32) (i : Nat) : UInt32 := FP.fadd FP.fconst0 (FP.fmul (ww 1) (xx (i - 1)))
def rq2 (ww xx : Nat → UInt32) (i : Nat) : UInt32 := FP.fadd (rq1 ww xx i) (FP.fmul (ww 2) (xx (i - 2)))
def rq3 (ww xx : Nat → UInt32) (i : Nat) : UInt32 := FP.fadd (rq2 ww xx i) (FP.fmul (ww 3) (xx (i - 3)))
def rq4 (ww xx : Nat → UInt32) (i : Nat) : UInt32 := FP.fadd (rq3 ww xx i) (FP.fmul (ww 4) (xx (i - 4)))
def f_rp (ww xx : Nat → UInt32) (i : Nat) : UInt32 := if nI i < 1 then FP.fconst0 else if nI i < 2 then rq1 ww xx i else if nI i < 3 then rq2 ww xx i else if nI i < 4 then rq3 ww xx i else rq4 ww xx i
def f_rest (ww xx : Nat → UInt32) : Nat → UInt32
  | 0 => FP.fconst0
  | i + 1 => f_gr (f_rest ww xx i) (f_uns (FP.fsub (xx i) (f_rp ww xx i)))

set_option maxHeartbeats 4000000 in
set_option maxRecDepth 100000 in
theorem c_Cod_measure (l : Launch) (D : va_G) (cF cI : ClassId) (sz : Nat) (h0 v0 p0 k0 x0 : Nat) (np : Int32) (rr : Nat → UInt32) (xx : Nat → UInt32) (hx9 : ∀ j, fk 143 (xx j)) : Met l yCod_measure (.code yCod_measure cCod_measure 5 (some .int) :: TB) ({ frames := 0, cells := 0, slots := 0, locals := 0 }) (va_Pc [.ref h0, .ref x0] (cPre D cF cI [(h0, .inr (1, [.ref v0, .ref p0, .int np, .ref k0])), (k0, .inl (cF, 5, .inr (.inr (.inl rr)))), (x0, .inl (cF, 48, .inr (.inr (.inl xx))))] sz)) (va_Qi (fun (r : Int32) (_ : Unit) => r = m_size (f_ac xx 0 16)) (cB D cF cI (va_A [(h0, .inr (1, [.ref v0, .ref p0, .int np, .ref k0])), (k0, .inl (cF, 5, .inr (.inr (.inl rr)))), (x0, .inl (cF, 48, .inr (.inr (.inl xx))))] sz) (fun _ : Unit => [(h0, .inr (1, [.ref v0, .ref p0, .int np, .ref k0])), (k0, .inl (cF, 5, .inr (.inr (.inl (f_like rr xx))))), (x0, .inl (cF, 48, .inr (.inr (.inl xx))))])) (va_A [(h0, .inr (1, [.ref v0, .ref p0, .int np, .ref k0])), (k0, .inl (cF, 5, .inr (.inr (.inl rr)))), (x0, .inl (cF, 48, .inr (.inr (.inl xx))))] sz)) 0 0 (va_A [(h0, .inr (1, [.ref v0, .ref p0, .int np, .ref k0])), (k0, .inl (cF, 5, .inr (.inr (.inl rr)))), (x0, .inl (cF, 48, .inr (.inr (.inl xx))))] sz) := by
  refine c_ofW (own := RCod) (by decide) rfl (fun p e s m below meth c hsz hx hb hr hml hown ht hlk hin hP hK hD hmb => ?_)
  subst hsz
  generalize hAe : va_A [(h0, .inr (1, [.ref v0, .ref p0, .int np, .ref k0])), (k0, .inl (cF, 5, .inr (.inr (.inl rr)))), (x0, .inl (cF, 48, .inr (.inr (.inl xx))))] s.heap.size = A at hD ⊢
  have hA : ∀ q : Nat, s.heap.size ≤ q → A q := fun q h => by rw [← hAe]; exact Or.inr h
  have hS : va_S A s.heap s.heap [] := va_S.rf
  have hl := lv_entry ([.ref h0, .ref x0]) (n := 5) (Nat.le_of_ble_eq_true rfl)
  rw [lg_entry_eq]
  generalize (lg_sl ([.ref h0, .ref x0]) ++ List.replicate (5 - (lg_sl ([.ref h0, .ref x0])).length) Slot.unset).toArray = ls at hl ⊢
  have hl : lv_has ls 5 [(0, .ref h0), (1, .ref x0)] := hl
  refine lv_iconst (v := 0) hx hb dCod_measure_0 (by decide) ?_
  refine lv_istore_n (lv' := [(2, .int 0), (0, .ref h0), (1, .ref x0)]) hx hb dCod_measure_1 rfl hl (by decide) rfl (fun ls hl => ?_)
  refine lv_iload_n hx hb dCod_measure_2 rfl (lv_at hl 0 rfl) ?_
  refine lv_iconst (v := 4) hx hb dCod_measure_3 (by decide) ?_
  refine lv_icmp_gt (tgt := 52) hx hb dCod_measure_4 (by decide) (fun c9 => absurd c9 (by decide)) (fun _ => ?_)
  refine lv_fconst0 hx hb dCod_measure_7 ?_
  refine lv_fstore_n (lv' := [(3, .float FP.fconst0), (2, .int 0), (0, .ref h0), (1, .ref x0)]) hx hb dCod_measure_8 rfl hl (by decide) rfl (fun ls hl => ?_)
  refine lv_iload_n hx hb dCod_measure_9 rfl (lv_at hl 1 rfl) ?_
  refine lv_istore (lv' := [(4, .int 0), (3, .float FP.fconst0), (2, .int 0), (0, .ref h0), (1, .ref x0)]) hx hb dCod_measure_10 hl (by decide) rfl (fun ls hl => ?_)
  have loop2 : ∀ (n i : Nat), i + n = 16 → 0 ≤ i → ∀ (H : Heap) (locs : List Loc), va_P D vwCl [(h0, .inr (1, [.ref v0, .ref p0, .int np, .ref k0])), (k0, .inl (cF, 5, .inr (.inr (.inl rr)))), (x0, .inl (cF, 48, .inr (.inr (.inl xx))))] H → va_D A [(h0, .inr (1, [.ref v0, .ref p0, .int np, .ref k0])), (k0, .inl (cF, 5, .inr (.inr (.inl rr)))), (x0, .inl (cF, 48, .inr (.inr (.inl xx))))] → va_S A s.heap H locs → ∀ (ls : Array Slot), lv_has ls 5 [(4, .int (nI i)), (3, .float (f_ac xx 0 i)), (2, .int 0), (1, .ref x0), (0, .ref h0)] → W p l e ({ frames := 0, cells := 0, slots := 0, locals := 0 } : Room) s m ([.ref h0, .ref x0] : List Value).toArray below meth c H locs 0 0 (MQ below (va_Qi (fun (r : Int32) (_ : Unit) => r = m_size (f_ac xx 0 16)) (cB D cF cI A (fun _ : Unit => [(h0, .inr (1, [.ref v0, .ref p0, .int np, .ref k0])), (k0, .inl (cF, 5, .inr (.inr (.inl (f_like rr xx))))), (x0, .inl (cF, 48, .inr (.inr (.inl xx))))])) A) ([.ref h0, .ref x0] : List Value).toArray s 0 0 A) (F0 m 12 ls []) := by
    intro n
    induction n with
    | zero =>
      intro i hi hk H locs hP hD hS ls hl
      obtain rfl : 16 = i := by omega
      refine lv_iload hx hb dCod_measure_12 (lv_at hl 0 rfl) ?_
      refine lv_bipush (v := 16) hx hb dCod_measure_14 (by decide) ?_
      refine lv_icmp_ge (tgt := 39) hx hb dCod_measure_16 (by decide) (fun c3 => ?_) (fun c3 => ?_)
      · refine lv_aload_n hx hb dCod_measure_39 rfl (lv_at hl 4 rfl) ?_
        refine va_get (D := D) (ci := 1) (v := .ref k0) hx hb ht inCod hown hK hP 0 rfl rfl 3 (by decide) (ht _ kf_Cod_25) (fun _ h9 => h9) rfl dCod_measure_40 ?_
        refine lv_iload_n hx hb dCod_measure_43 rfl (lv_at hl 2 rfl) ?_
        refine lv_fload_n hx hb dCod_measure_44 rfl (lv_at hl 1 rfl) ?_
        refine k_fast (j := 0) (f1 := vf_upd rr 0 (f_ac xx 0 16)) hx hb hK hP hD hS 1 0 rfl rfl (by unfold vp_in; decide) rfl rfl dCod_measure_45 (fun H locs hP hD hS => ?_)
        have hP : va_P D vwCl [(h0, .inr (1, [.ref v0, .ref p0, .int np, .ref k0])), (k0, .inl (cF, 5, .inr (.inr (.inl (vf_upd rr 0 (f_ac xx 0 16)))))), (x0, .inl (cF, 48, .inr (.inr (.inl xx))))] H := hP
        have hD : va_D A [(h0, .inr (1, [.ref v0, .ref p0, .int np, .ref k0])), (k0, .inl (cF, 5, .inr (.inr (.inl (vf_upd rr 0 (f_ac xx 0 16)))))), (x0, .inl (cF, 48, .inr (.inr (.inl xx))))] := hD
        refine lv_iinc (v := 1) (lv' := [(2, .int 1), (4, .int (nI 16)), (3, .float (f_ac xx 0 16)), (1, .ref x0), (0, .ref h0)]) hx hb dCod_measure_46 hl (k := 2) rfl (by decide) (by decide) rfl (fun ls hl => ?_)
        refine lv_goto (tgt := 2) hx hb dCod_measure_49 (by decide) ?_
        refine lv_iload_n hx hb dCod_measure_2 rfl (lv_at hl 0 rfl) ?_
        refine lv_iconst (v := 4) hx hb dCod_measure_3 (by decide) ?_
        refine lv_icmp_gt (tgt := 52) hx hb dCod_measure_4 (by decide) (fun c9 => absurd c9 (by decide)) (fun _ => ?_)
        refine lv_fconst0 hx hb dCod_measure_7 ?_
        refine lv_fstore_n (lv' := [(3, .float FP.fconst0), (2, .int 1), (4, .int (nI 16)), (1, .ref x0), (0, .ref h0)]) hx hb dCod_measure_8 rfl hl (by decide) rfl (fun ls hl => ?_)
        refine lv_iload_n hx hb dCod_measure_9 rfl (lv_at hl 1 rfl) ?_
        refine lv_istore (lv' := [(4, .int 1), (3, .float FP.fconst0), (2, .int 1), (1, .ref x0), (0, .ref h0)]) hx hb dCod_measure_10 hl (by decide) rfl (fun ls hl => ?_)
        have loop5 : ∀ (n i : Nat), i + n = 16 → 1 ≤ i → ∀ (H : Heap) (locs : List Loc), va_P D vwCl [(h0, .inr (1, [.ref v0, .ref p0, .int np, .ref k0])), (k0, .inl (cF, 5, .inr (.inr (.inl (vf_upd rr 0 (f_ac xx 0 16)))))), (x0, .inl (cF, 48, .inr (.inr (.inl xx))))] H → va_D A [(h0, .inr (1, [.ref v0, .ref p0, .int np, .ref k0])), (k0, .inl (cF, 5, .inr (.inr (.inl (vf_upd rr 0 (f_ac xx 0 16)))))), (x0, .inl (cF, 48, .inr (.inr (.inl xx))))] → va_S A s.heap H locs → ∀ (ls : Array Slot), lv_has ls 5 [(4, .int (nI i)), (3, .float (f_ac xx 1 i)), (2, .int 1), (1, .ref x0), (0, .ref h0)] → W p l e ({ frames := 0, cells := 0, slots := 0, locals := 0 } : Room) s m ([.ref h0, .ref x0] : List Value).toArray below meth c H locs 0 0 (MQ below (va_Qi (fun (r : Int32) (_ : Unit) => r = m_size (f_ac xx 0 16)) (cB D cF cI A (fun _ : Unit => [(h0, .inr (1, [.ref v0, .ref p0, .int np, .ref k0])), (k0, .inl (cF, 5, .inr (.inr (.inl (f_like rr xx))))), (x0, .inl (cF, 48, .inr (.inr (.inl xx))))])) A) ([.ref h0, .ref x0] : List Value).toArray s 0 0 A) (F0 m 12 ls []) := by
          intro n
          induction n with
          | zero =>
            intro i hi hk H locs hP hD hS ls hl
            obtain rfl : 16 = i := by omega
            refine lv_iload hx hb dCod_measure_12 (lv_at hl 0 rfl) ?_
            refine lv_bipush (v := 16) hx hb dCod_measure_14 (by decide) ?_
            refine lv_icmp_ge (tgt := 39) hx hb dCod_measure_16 (by decide) (fun c6 => ?_) (fun c6 => ?_)
            · refine lv_aload_n hx hb dCod_measure_39 rfl (lv_at hl 4 rfl) ?_
              refine va_get (D := D) (ci := 1) (v := .ref k0) hx hb ht inCod hown hK hP 0 rfl rfl 3 (by decide) (ht _ kf_Cod_25) (fun _ h9 => h9) rfl dCod_measure_40 ?_
              refine lv_iload_n hx hb dCod_measure_43 rfl (lv_at hl 2 rfl) ?_
              refine lv_fload_n hx hb dCod_measure_44 rfl (lv_at hl 1 rfl) ?_
              refine k_fast (j := 1) (f1 := vf_upd (vf_upd rr 0 (f_ac xx 0 16)) 1 (f_ac xx 1 16)) hx hb hK hP hD hS 1 0 rfl rfl (by unfold vp_in; decide) rfl rfl dCod_measure_45 (fun H locs hP hD hS => ?_)
              have hP : va_P D vwCl [(h0, .inr (1, [.ref v0, .ref p0, .int np, .ref k0])), (k0, .inl (cF, 5, .inr (.inr (.inl (vf_upd (vf_upd rr 0 (f_ac xx 0 16)) 1 (f_ac xx 1 16)))))), (x0, .inl (cF, 48, .inr (.inr (.inl xx))))] H := hP
              have hD : va_D A [(h0, .inr (1, [.ref v0, .ref p0, .int np, .ref k0])), (k0, .inl (cF, 5, .inr (.inr (.inl (vf_upd (vf_upd rr 0 (f_ac xx 0 16)) 1 (f_ac xx 1 16)))))), (x0, .inl (cF, 48, .inr (.inr (.inl xx))))] := hD
              refine lv_iinc (v := 2) (lv' := [(2, .int 2), (4, .int (nI 16)), (3, .float (f_ac xx 1 16)), (1, .ref x0), (0, .ref h0)]) hx hb dCod_measure_46 hl (k := 2) rfl (by decide) (by decide) rfl (fun ls hl => ?_)
              refine lv_goto (tgt := 2) hx hb dCod_measure_49 (by decide) ?_
              refine lv_iload_n hx hb dCod_measure_2 rfl (lv_at hl 0 rfl) ?_
              refine lv_iconst (v := 4) hx hb dCod_measure_3 (by decide) ?_
              refine lv_icmp_gt (tgt := 52) hx hb dCod_measure_4 (by decide) (fun c9 => absurd c9 (by decide)) (fun _ => ?_)
              refine lv_fconst0 hx hb dCod_measure_7 ?_
              refine lv_fstore_n (lv' := [(3, .float FP.fconst0), (2, .int 2), (4, .int (nI 16)), (1, .ref x0), (0, .ref h0)]) hx hb dCod_measure_8 rfl hl (by decide) rfl (fun ls hl => ?_)
              refine lv_iload_n hx hb dCod_measure_9 rfl (lv_at hl 1 rfl) ?_
              refine lv_istore (lv' := [(4, .int 2), (3, .float FP.fconst0), (2, .int 2), (1, .ref x0), (0, .ref h0)]) hx hb dCod_measure_10 hl (by decide) rfl (fun ls hl => ?_)
              have loop8 : ∀ (n i : Nat), i + n = 16 → 2 ≤ i → ∀ (H : Heap) (locs : List Loc), va_P D vwCl [(h0, .inr (1, [.ref v0, .ref p0, .int np, .ref k0])), (k0, .inl (cF, 5, .inr (.inr (.inl (vf_upd (vf_upd rr 0 (f_ac xx 0 16)) 1 (f_ac xx 1 16)))))), (x0, .inl (cF, 48, .inr (.inr (.inl xx))))] H → va_D A [(h0, .inr (1, [.ref v0, .ref p0, .int np, .ref k0])), (k0, .inl (cF, 5, .inr (.inr (.inl (vf_upd (vf_upd rr 0 (f_ac xx 0 16)) 1 (f_ac xx 1 16)))))), (x0, .inl (cF, 48, .inr (.inr (.inl xx))))] → va_S A s.heap H locs → ∀ (ls : Array Slot), lv_has ls 5 [(4, .int (nI i)), (3, .float (f_ac xx 2 i)), (2, .int 2), (1, .ref x0), (0, .ref h0)] → W p l e ({ frames := 0, cells := 0, slots := 0, locals := 0 } : Room) s m ([.ref h0, .ref x0] : List Value).toArray below meth c H locs 0 0 (MQ below (va_Qi (fun (r : Int32) (_ : Unit) => r = m_size (f_ac xx 0 16)) (cB D cF cI A (fun _ : Unit => [(h0, .inr (1, [.ref v0, .ref p0, .int np, .ref k0])), (k0, .inl (cF, 5, .inr (.inr (.inl (f_like rr xx))))), (x0, .inl (cF, 48, .inr (.inr (.inl xx))))])) A) ([.ref h0, .ref x0] : List Value).toArray s 0 0 A) (F0 m 12 ls []) := by
                intro n
                induction n with
                | zero =>
                  intro i hi hk H locs hP hD hS ls hl
                  obtain rfl : 16 = i := by omega
                  refine lv_iload hx hb dCod_measure_12 (lv_at hl 0 rfl) ?_
                  refine lv_bipush (v := 16) hx hb dCod_measure_14 (by decide) ?_
                  refine lv_icmp_ge (tgt := 39) hx hb dCod_measure_16 (by decide) (fun c9 => ?_) (fun c9 => ?_)
                  · refine lv_aload_n hx hb dCod_measure_39 rfl (lv_at hl 4 rfl) ?_
                    refine va_get (D := D) (ci := 1) (v := .ref k0) hx hb ht inCod hown hK hP 0 rfl rfl 3 (by decide) (ht _ kf_Cod_25) (fun _ h9 => h9) rfl dCod_measure_40 ?_
                    refine lv_iload_n hx hb dCod_measure_43 rfl (lv_at hl 2 rfl) ?_
                    refine lv_fload_n hx hb dCod_measure_44 rfl (lv_at hl 1 rfl) ?_
                    refine k_fast (j := 2) (f1 := vf_upd (vf_upd (vf_upd rr 0 (f_ac xx 0 16)) 1 (f_ac xx 1 16)) 2 (f_ac xx 2 16)) hx hb hK hP hD hS 1 0 rfl rfl (by unfold vp_in; decide) rfl rfl dCod_measure_45 (fun H locs hP hD hS => ?_)
                    have hP : va_P D vwCl [(h0, .inr (1, [.ref v0, .ref p0, .int np, .ref k0])), (k0, .inl (cF, 5, .inr (.inr (.inl (vf_upd (vf_upd (vf_upd rr 0 (f_ac xx 0 16)) 1 (f_ac xx 1 16)) 2 (f_ac xx 2 16)))))), (x0, .inl (cF, 48, .inr (.inr (.inl xx))))] H := hP
                    have hD : va_D A [(h0, .inr (1, [.ref v0, .ref p0, .int np, .ref k0])), (k0, .inl (cF, 5, .inr (.inr (.inl (vf_upd (vf_upd (vf_upd rr 0 (f_ac xx 0 16)) 1 (f_ac xx 1 16)) 2 (f_ac xx 2 16)))))), (x0, .inl (cF, 48, .inr (.inr (.inl xx))))] := hD
                    refine lv_iinc (v := 3) (lv' := [(2, .int 3), (4, .int (nI 16)), (3, .float (f_ac xx 2 16)), (1, .ref x0), (0, .ref h0)]) hx hb dCod_measure_46 hl (k := 2) rfl (by decide) (by decide) rfl (fun ls hl => ?_)
                    refine lv_goto (tgt := 2) hx hb dCod_measure_49 (by decide) ?_
                    refine lv_iload_n hx hb dCod_measure_2 rfl (lv_at hl 0 rfl) ?_
                    refine lv_iconst (v := 4) hx hb dCod_measure_3 (by decide) ?_
                    refine lv_icmp_gt (tgt := 52) hx hb dCod_measure_4 (by decide) (fun c9 => absurd c9 (by decide)) (fun _ => ?_)
                    refine lv_fconst0 hx hb dCod_measure_7 ?_
                    refine lv_fstore_n (lv' := [(3, .float FP.fconst0), (2, .int 3), (4, .int (nI 16)), (1, .ref x0), (0, .ref h0)]) hx hb dCod_measure_8 rfl hl (by decide) rfl (fun ls hl => ?_)
                    refine lv_iload_n hx hb dCod_measure_9 rfl (lv_at hl 1 rfl) ?_
                    refine lv_istore (lv' := [(4, .int 3), (3, .float FP.fconst0), (2, .int 3), (1, .ref x0), (0, .ref h0)]) hx hb dCod_measure_10 hl (by decide) rfl (fun ls hl => ?_)
                    have loop11 : ∀ (n i : Nat), i + n = 16 → 3 ≤ i → ∀ (H : Heap) (locs : List Loc), va_P D vwCl [(h0, .inr (1, [.ref v0, .ref p0, .int np, .ref k0])), (k0, .inl (cF, 5, .inr (.inr (.inl (vf_upd (vf_upd (vf_upd rr 0 (f_ac xx 0 16)) 1 (f_ac xx 1 16)) 2 (f_ac xx 2 16)))))), (x0, .inl (cF, 48, .inr (.inr (.inl xx))))] H → va_D A [(h0, .inr (1, [.ref v0, .ref p0, .int np, .ref k0])), (k0, .inl (cF, 5, .inr (.inr (.inl (vf_upd (vf_upd (vf_upd rr 0 (f_ac xx 0 16)) 1 (f_ac xx 1 16)) 2 (f_ac xx 2 16)))))), (x0, .inl (cF, 48, .inr (.inr (.inl xx))))] → va_S A s.heap H locs → ∀ (ls : Array Slot), lv_has ls 5 [(4, .int (nI i)), (3, .float (f_ac xx 3 i)), (2, .int 3), (1, .ref x0), (0, .ref h0)] → W p l e ({ frames := 0, cells := 0, slots := 0, locals := 0 } : Room) s m ([.ref h0, .ref x0] : List Value).toArray below meth c H locs 0 0 (MQ below (va_Qi (fun (r : Int32) (_ : Unit) => r = m_size (f_ac xx 0 16)) (cB D cF cI A (fun _ : Unit => [(h0, .inr (1, [.ref v0, .ref p0, .int np, .ref k0])), (k0, .inl (cF, 5, .inr (.inr (.inl (f_like rr xx))))), (x0, .inl (cF, 48, .inr (.inr (.inl xx))))])) A) ([.ref h0, .ref x0] : List Value).toArray s 0 0 A) (F0 m 12 ls []) := by
                      intro n
                      induction n with
                      | zero =>
                        intro i hi hk H locs hP hD hS ls hl
                        obtain rfl : 16 = i := by omega
                        refine lv_iload hx hb dCod_measure_12 (lv_at hl 0 rfl) ?_
                        refine lv_bipush (v := 16) hx hb dCod_measure_14 (by decide) ?_
                        refine lv_icmp_ge (tgt := 39) hx hb dCod_measure_16 (by decide) (fun c12 => ?_) (fun c12 => ?_)
                        · refine lv_aload_n hx hb dCod_measure_39 rfl (lv_at hl 4 rfl) ?_
                          refine va_get (D := D) (ci := 1) (v := .ref k0) hx hb ht inCod hown hK hP 0 rfl rfl 3 (by decide) (ht _ kf_Cod_25) (fun _ h9 => h9) rfl dCod_measure_40 ?_
                          refine lv_iload_n hx hb dCod_measure_43 rfl (lv_at hl 2 rfl) ?_
                          refine lv_fload_n hx hb dCod_measure_44 rfl (lv_at hl 1 rfl) ?_
                          refine k_fast (j := 3) (f1 := vf_upd (vf_upd (vf_upd (vf_upd rr 0 (f_ac xx 0 16)) 1 (f_ac xx 1 16)) 2 (f_ac xx 2 16)) 3 (f_ac xx 3 16)) hx hb hK hP hD hS 1 0 rfl rfl (by unfold vp_in; decide) rfl rfl dCod_measure_45 (fun H locs hP hD hS => ?_)
                          have hP : va_P D vwCl [(h0, .inr (1, [.ref v0, .ref p0, .int np, .ref k0])), (k0, .inl (cF, 5, .inr (.inr (.inl (vf_upd (vf_upd (vf_upd (vf_upd rr 0 (f_ac xx 0 16)) 1 (f_ac xx 1 16)) 2 (f_ac xx 2 16)) 3 (f_ac xx 3 16)))))), (x0, .inl (cF, 48, .inr (.inr (.inl xx))))] H := hP
                          have hD : va_D A [(h0, .inr (1, [.ref v0, .ref p0, .int np, .ref k0])), (k0, .inl (cF, 5, .inr (.inr (.inl (vf_upd (vf_upd (vf_upd (vf_upd rr 0 (f_ac xx 0 16)) 1 (f_ac xx 1 16)) 2 (f_ac xx 2 16)) 3 (f_ac xx 3 16)))))), (x0, .inl (cF, 48, .inr (.inr (.inl xx))))] := hD
                          refine lv_iinc (v := 4) (lv' := [(2, .int 4), (4, .int (nI 16)), (3, .float (f_ac xx 3 16)), (1, .ref x0), (0, .ref h0)]) hx hb dCod_measure_46 hl (k := 2) rfl (by decide) (by decide) rfl (fun ls hl => ?_)
                          refine lv_goto (tgt := 2) hx hb dCod_measure_49 (by decide) ?_
                          refine lv_iload_n hx hb dCod_measure_2 rfl (lv_at hl 0 rfl) ?_
                          refine lv_iconst (v := 4) hx hb dCod_measure_3 (by decide) ?_
                          refine lv_icmp_gt (tgt := 52) hx hb dCod_measure_4 (by decide) (fun c9 => absurd c9 (by decide)) (fun _ => ?_)
                          refine lv_fconst0 hx hb dCod_measure_7 ?_
                          refine lv_fstore_n (lv' := [(3, .float FP.fconst0), (2, .int 4), (4, .int (nI 16)), (1, .ref x0), (0, .ref h0)]) hx hb dCod_measure_8 rfl hl (by decide) rfl (fun ls hl => ?_)
                          refine lv_iload_n hx hb dCod_measure_9 rfl (lv_at hl 1 rfl) ?_
                          refine lv_istore (lv' := [(4, .int 4), (3, .float FP.fconst0), (2, .int 4), (1, .ref x0), (0, .ref h0)]) hx hb dCod_measure_10 hl (by decide) rfl (fun ls hl => ?_)
                          have loop14 : ∀ (n i : Nat), i + n = 16 → 4 ≤ i → ∀ (H : Heap) (locs : List Loc), va_P D vwCl [(h0, .inr (1, [.ref v0, .ref p0, .int np, .ref k0])), (k0, .inl (cF, 5, .inr (.inr (.inl (vf_upd (vf_upd (vf_upd (vf_upd rr 0 (f_ac xx 0 16)) 1 (f_ac xx 1 16)) 2 (f_ac xx 2 16)) 3 (f_ac xx 3 16)))))), (x0, .inl (cF, 48, .inr (.inr (.inl xx))))] H → va_D A [(h0, .inr (1, [.ref v0, .ref p0, .int np, .ref k0])), (k0, .inl (cF, 5, .inr (.inr (.inl (vf_upd (vf_upd (vf_upd (vf_upd rr 0 (f_ac xx 0 16)) 1 (f_ac xx 1 16)) 2 (f_ac xx 2 16)) 3 (f_ac xx 3 16)))))), (x0, .inl (cF, 48, .inr (.inr (.inl xx))))] → va_S A s.heap H locs → ∀ (ls : Array Slot), lv_has ls 5 [(4, .int (nI i)), (3, .float (f_ac xx 4 i)), (2, .int 4), (1, .ref x0), (0, .ref h0)] → W p l e ({ frames := 0, cells := 0, slots := 0, locals := 0 } : Room) s m ([.ref h0, .ref x0] : List Value).toArray below meth c H locs 0 0 (MQ below (va_Qi (fun (r : Int32) (_ : Unit) => r = m_size (f_ac xx 0 16)) (cB D cF cI A (fun _ : Unit => [(h0, .inr (1, [.ref v0, .ref p0, .int np, .ref k0])), (k0, .inl (cF, 5, .inr (.inr (.inl (f_like rr xx))))), (x0, .inl (cF, 48, .inr (.inr (.inl xx))))])) A) ([.ref h0, .ref x0] : List Value).toArray s 0 0 A) (F0 m 12 ls []) := by
                            intro n
                            induction n with
                            | zero =>
                              intro i hi hk H locs hP hD hS ls hl
                              obtain rfl : 16 = i := by omega
                              refine lv_iload hx hb dCod_measure_12 (lv_at hl 0 rfl) ?_
                              refine lv_bipush (v := 16) hx hb dCod_measure_14 (by decide) ?_
                              refine lv_icmp_ge (tgt := 39) hx hb dCod_measure_16 (by decide) (fun c15 => ?_) (fun c15 => ?_)
                              · refine lv_aload_n hx hb dCod_measure_39 rfl (lv_at hl 4 rfl) ?_
                                refine va_get (D := D) (ci := 1) (v := .ref k0) hx hb ht inCod hown hK hP 0 rfl rfl 3 (by decide) (ht _ kf_Cod_25) (fun _ h9 => h9) rfl dCod_measure_40 ?_
                                refine lv_iload_n hx hb dCod_measure_43 rfl (lv_at hl 2 rfl) ?_
                                refine lv_fload_n hx hb dCod_measure_44 rfl (lv_at hl 1 rfl) ?_
                                refine k_fast (j := 4) (f1 := vf_upd (vf_upd (vf_upd (vf_upd (vf_upd rr 0 (f_ac xx 0 16)) 1 (f_ac xx 1 16)) 2 (f_ac xx 2 16)) 3 (f_ac xx 3 16)) 4 (f_ac xx 4 16)) hx hb hK hP hD hS 1 0 rfl rfl (by unfold vp_in; decide) rfl rfl dCod_measure_45 (fun H locs hP hD hS => ?_)
                                have hP : va_P D vwCl [(h0, .inr (1, [.ref v0, .ref p0, .int np, .ref k0])), (k0, .inl (cF, 5, .inr (.inr (.inl (vf_upd (vf_upd (vf_upd (vf_upd (vf_upd rr 0 (f_ac xx 0 16)) 1 (f_ac xx 1 16)) 2 (f_ac xx 2 16)) 3 (f_ac xx 3 16)) 4 (f_ac xx 4 16)))))), (x0, .inl (cF, 48, .inr (.inr (.inl xx))))] H := hP
                                have hD : va_D A [(h0, .inr (1, [.ref v0, .ref p0, .int np, .ref k0])), (k0, .inl (cF, 5, .inr (.inr (.inl (vf_upd (vf_upd (vf_upd (vf_upd (vf_upd rr 0 (f_ac xx 0 16)) 1 (f_ac xx 1 16)) 2 (f_ac xx 2 16)) 3 (f_ac xx 3 16)) 4 (f_ac xx 4 16)))))), (x0, .inl (cF, 48, .inr (.inr (.inl xx))))] := hD
                                refine lv_iinc (v := 5) (lv' := [(2, .int 5), (4, .int (nI 16)), (3, .float (f_ac xx 4 16)), (1, .ref x0), (0, .ref h0)]) hx hb dCod_measure_46 hl (k := 2) rfl (by decide) (by decide) rfl (fun ls hl => ?_)
                                refine lv_goto (tgt := 2) hx hb dCod_measure_49 (by decide) ?_
                                refine lv_iload_n hx hb dCod_measure_2 rfl (lv_at hl 0 rfl) ?_
                                refine lv_iconst (v := 4) hx hb dCod_measure_3 (by decide) ?_
                                refine lv_icmp_gt (tgt := 52) hx hb dCod_measure_4 (by decide) (fun _ => ?_) (fun c9 => absurd (by decide) c9)
                                refine lv_aload_n hx hb dCod_measure_52 rfl (lv_at hl 4 rfl) ?_
                                refine va_get (D := D) (ci := 1) (v := .ref k0) hx hb ht inCod hown hK hP 0 rfl rfl 3 (by decide) (ht _ kf_Cod_25) (fun _ h9 => h9) rfl dCod_measure_53 ?_
                                refine lv_iconst (v := 0) hx hb dCod_measure_56 (by decide) ?_
                                refine k_fald (j := 0) hx hb hK hP 1 0 rfl rfl (by unfold vp_in; decide) rfl dCod_measure_57 ?_
                                refine W.eq (g2 := F0 m 58 ls [.float (f_ac xx 0 16)]) rfl ?_
                                refine lv_fconst1 hx hb dCod_measure_58 ?_
                                refine lv_fcmp hx hb dCod_measure_59 ?_
                                refine lv_if_ge (tgt := 67) hx hb dCod_measure_60 (by decide) (fun c17 => ?_) (fun c17 => ?_)
                                · refine lv_bipush (v := 14) hx hb dCod_measure_67 (by decide) ?_
                                  have hP := hP.sub (ws' := [(h0, .inr (1, [.ref v0, .ref p0, .int np, .ref k0])), (k0, .inl (cF, 5, .inr (.inr (.inl (vf_upd (vf_upd (vf_upd (vf_upd (vf_upd rr 0 (f_ac xx 0 16)) 1 (f_ac xx 1 16)) 2 (f_ac xx 2 16)) 3 (f_ac xx 3 16)) 4 (f_ac xx 4 16)))))), (x0, .inl (cF, 48, .inr (.inr (.inl xx))))]) [0, 1, 2] rfl
                                  have hD := hD.sub (ws' := [(h0, .inr (1, [.ref v0, .ref p0, .int np, .ref k0])), (k0, .inl (cF, 5, .inr (.inr (.inl (vf_upd (vf_upd (vf_upd (vf_upd (vf_upd rr 0 (f_ac xx 0 16)) 1 (f_ac xx 1 16)) 2 (f_ac xx 2 16)) 3 (f_ac xx 3 16)) 4 (f_ac xx 4 16)))))), (x0, .inl (cF, 48, .inr (.inr (.inl xx))))]) [0, 1, 2] (by decide) rfl
                                  exact e_i () hx hb hr hlk hK hP hD hS rfl (by unfold m_size; rw [if_pos c17]) dCod_measure_69
                                · refine lv_iconst (v := 1) hx hb dCod_measure_63 (by decide) ?_
                                  refine lv_goto (tgt := 69) hx hb dCod_measure_64 (by decide) ?_
                                  have hP := hP.sub (ws' := [(h0, .inr (1, [.ref v0, .ref p0, .int np, .ref k0])), (k0, .inl (cF, 5, .inr (.inr (.inl (vf_upd (vf_upd (vf_upd (vf_upd (vf_upd rr 0 (f_ac xx 0 16)) 1 (f_ac xx 1 16)) 2 (f_ac xx 2 16)) 3 (f_ac xx 3 16)) 4 (f_ac xx 4 16)))))), (x0, .inl (cF, 48, .inr (.inr (.inl xx))))]) [0, 1, 2] rfl
                                  have hD := hD.sub (ws' := [(h0, .inr (1, [.ref v0, .ref p0, .int np, .ref k0])), (k0, .inl (cF, 5, .inr (.inr (.inl (vf_upd (vf_upd (vf_upd (vf_upd (vf_upd rr 0 (f_ac xx 0 16)) 1 (f_ac xx 1 16)) 2 (f_ac xx 2 16)) 3 (f_ac xx 3 16)) 4 (f_ac xx 4 16)))))), (x0, .inl (cF, 48, .inr (.inr (.inl xx))))]) [0, 1, 2] (by decide) rfl
                                  exact e_i () hx hb hr hlk hK hP hD hS rfl (by unfold m_size; rw [if_neg c17]) dCod_measure_69
                              · exact absurd (by decide) c15
                            | succ n ih =>
                              intro i hi hk H locs hP hD hS ls hl
                              have hi1 : i < 16 := by omega
                              refine lv_iload hx hb dCod_measure_12 (lv_at hl 0 rfl) ?_
                              refine lv_bipush (v := 16) hx hb dCod_measure_14 (by decide) ?_
                              refine lv_icmp_ge (tgt := 39) hx hb dCod_measure_16 (by decide) (fun c18 => ?_) (fun c18 => ?_)
                              · exact absurd c18 (lt_up (N := 16) (by decide) hi1 (by decide))
                              · refine lv_fload_n hx hb dCod_measure_19 rfl (lv_at hl 1 rfl) ?_
                                refine lv_aload_n hx hb dCod_measure_20 rfl (lv_at hl 3 rfl) ?_
                                refine lv_iload hx hb dCod_measure_21 (lv_at hl 0 rfl) ?_
                                refine k_fald (j := i) hx hb hK hP 2 0 rfl rfl (vp_in_nI (by omega) (by decide)) (nI_clamp (by omega)) dCod_measure_23 ?_
                                refine lv_aload_n hx hb dCod_measure_24 rfl (lv_at hl 3 rfl) ?_
                                refine lv_iload hx hb dCod_measure_25 (lv_at hl 0 rfl) ?_
                                refine lv_iload_n hx hb dCod_measure_27 rfl (lv_at hl 2 rfl) ?_
                                refine k_isub (v := nI (i - 4)) hx hb dCod_measure_28 (sub_lit (by decide) hk) ?_
                                refine k_fald (j := (i - 4)) hx hb hK hP 2 0 rfl rfl (vp_in_nI (by omega) (by decide)) (nI_clamp (by omega)) dCod_measure_29 ?_
                                refine lv_fmul hx hb dCod_measure_30 (fk_n (fk_mul (hx9 _) (hx9 _) (by decide) (by decide)) (by decide)) ?_
                                refine lv_fadd hx hb dCod_measure_31 (fk_n (fk_add (K := 192) (fk_mono (fk_mono (K' := 192) (ac_k hx9 4 i (by omega)) (by omega)) (by decide)) (fk_mono (fk_mul (hx9 _) (hx9 _) (by decide) (by decide)) (by decide)) (by decide)) (by decide)) ?_
                                rw [show FP.fadd (f_ac xx 4 i) (FP.fmul (xx i) (xx (i - 4))) = f_ac xx 4 (i + 1) from (f_ac_s hk)]
                                refine lv_fstore_n (lv' := [(3, .float (f_ac xx 4 (i + 1))), (4, .int (nI i)), (2, .int 4), (1, .ref x0), (0, .ref h0)]) hx hb dCod_measure_32 rfl hl (by decide) rfl (fun ls hl => ?_)
                                refine lv_iinc (v := nI (i + 1)) (lv' := [(4, .int (nI (i + 1))), (3, .float (f_ac xx 4 (i + 1))), (2, .int 4), (1, .ref x0), (0, .ref h0)]) hx hb dCod_measure_33 hl (k := 1) rfl (nI_1 i) (by decide) rfl (fun ls hl => ?_)
                                refine lv_goto (tgt := 12) hx hb dCod_measure_36 (by decide) ?_
                                exact ih (i + 1) (by omega) (by omega) _ _ (hP.sub (ws' := [(h0, .inr (1, [.ref v0, .ref p0, .int np, .ref k0])), (k0, .inl (cF, 5, .inr (.inr (.inl (vf_upd (vf_upd (vf_upd (vf_upd rr 0 (f_ac xx 0 16)) 1 (f_ac xx 1 16)) 2 (f_ac xx 2 16)) 3 (f_ac xx 3 16)))))), (x0, .inl (cF, 48, .inr (.inr (.inl xx))))]) [0, 1, 2] rfl) (hD.sub (ws' := [(h0, .inr (1, [.ref v0, .ref p0, .int np, .ref k0])), (k0, .inl (cF, 5, .inr (.inr (.inl (vf_upd (vf_upd (vf_upd (vf_upd rr 0 (f_ac xx 0 16)) 1 (f_ac xx 1 16)) 2 (f_ac xx 2 16)) 3 (f_ac xx 3 16)))))), (x0, .inl (cF, 48, .inr (.inr (.inl xx))))]) [0, 1, 2] (by decide) rfl) hS ls (lv_sub hl [0, 1, 2, 3, 4] rfl)
                          exact loop14 12 4 (by omega) (by omega) _ _ (hP.sub (ws' := [(h0, .inr (1, [.ref v0, .ref p0, .int np, .ref k0])), (k0, .inl (cF, 5, .inr (.inr (.inl (vf_upd (vf_upd (vf_upd (vf_upd rr 0 (f_ac xx 0 16)) 1 (f_ac xx 1 16)) 2 (f_ac xx 2 16)) 3 (f_ac xx 3 16)))))), (x0, .inl (cF, 48, .inr (.inr (.inl xx))))]) [0, 1, 2] rfl) (hD.sub (ws' := [(h0, .inr (1, [.ref v0, .ref p0, .int np, .ref k0])), (k0, .inl (cF, 5, .inr (.inr (.inl (vf_upd (vf_upd (vf_upd (vf_upd rr 0 (f_ac xx 0 16)) 1 (f_ac xx 1 16)) 2 (f_ac xx 2 16)) 3 (f_ac xx 3 16)))))), (x0, .inl (cF, 48, .inr (.inr (.inl xx))))]) [0, 1, 2] (by decide) rfl) hS ls (show lv_has ls 5 [(4, .int (nI 4)), (3, .float (f_ac xx 4 4)), (2, .int 4), (1, .ref x0), (0, .ref h0)] by rw [show nI 4 = (4 : Int32) from (by decide), f_ac_k]; exact lv_sub hl [0, 1, 2, 3, 4] rfl)
                        · exact absurd (by decide) c12
                      | succ n ih =>
                        intro i hi hk H locs hP hD hS ls hl
                        have hi1 : i < 16 := by omega
                        refine lv_iload hx hb dCod_measure_12 (lv_at hl 0 rfl) ?_
                        refine lv_bipush (v := 16) hx hb dCod_measure_14 (by decide) ?_
                        refine lv_icmp_ge (tgt := 39) hx hb dCod_measure_16 (by decide) (fun c19 => ?_) (fun c19 => ?_)
                        · exact absurd c19 (lt_up (N := 16) (by decide) hi1 (by decide))
                        · refine lv_fload_n hx hb dCod_measure_19 rfl (lv_at hl 1 rfl) ?_
                          refine lv_aload_n hx hb dCod_measure_20 rfl (lv_at hl 3 rfl) ?_
                          refine lv_iload hx hb dCod_measure_21 (lv_at hl 0 rfl) ?_
                          refine k_fald (j := i) hx hb hK hP 2 0 rfl rfl (vp_in_nI (by omega) (by decide)) (nI_clamp (by omega)) dCod_measure_23 ?_
                          refine lv_aload_n hx hb dCod_measure_24 rfl (lv_at hl 3 rfl) ?_
                          refine lv_iload hx hb dCod_measure_25 (lv_at hl 0 rfl) ?_
                          refine lv_iload_n hx hb dCod_measure_27 rfl (lv_at hl 2 rfl) ?_
                          refine k_isub (v := nI (i - 3)) hx hb dCod_measure_28 (sub_lit (by decide) hk) ?_
                          refine k_fald (j := (i - 3)) hx hb hK hP 2 0 rfl rfl (vp_in_nI (by omega) (by decide)) (nI_clamp (by omega)) dCod_measure_29 ?_
                          refine lv_fmul hx hb dCod_measure_30 (fk_n (fk_mul (hx9 _) (hx9 _) (by decide) (by decide)) (by decide)) ?_
                          refine lv_fadd hx hb dCod_measure_31 (fk_n (fk_add (K := 192) (fk_mono (fk_mono (K' := 192) (ac_k hx9 3 i (by omega)) (by omega)) (by decide)) (fk_mono (fk_mul (hx9 _) (hx9 _) (by decide) (by decide)) (by decide)) (by decide)) (by decide)) ?_
                          rw [show FP.fadd (f_ac xx 3 i) (FP.fmul (xx i) (xx (i - 3))) = f_ac xx 3 (i + 1) from (f_ac_s hk)]
                          refine lv_fstore_n (lv' := [(3, .float (f_ac xx 3 (i + 1))), (4, .int (nI i)), (2, .int 3), (1, .ref x0), (0, .ref h0)]) hx hb dCod_measure_32 rfl hl (by decide) rfl (fun ls hl => ?_)
                          refine lv_iinc (v := nI (i + 1)) (lv' := [(4, .int (nI (i + 1))), (3, .float (f_ac xx 3 (i + 1))), (2, .int 3), (1, .ref x0), (0, .ref h0)]) hx hb dCod_measure_33 hl (k := 1) rfl (nI_1 i) (by decide) rfl (fun ls hl => ?_)
                          refine lv_goto (tgt := 12) hx hb dCod_measure_36 (by decide) ?_
                          exact ih (i + 1) (by omega) (by omega) _ _ (hP.sub (ws' := [(h0, .inr (1, [.ref v0, .ref p0, .int np, .ref k0])), (k0, .inl (cF, 5, .inr (.inr (.inl (vf_upd (vf_upd (vf_upd rr 0 (f_ac xx 0 16)) 1 (f_ac xx 1 16)) 2 (f_ac xx 2 16)))))), (x0, .inl (cF, 48, .inr (.inr (.inl xx))))]) [0, 1, 2] rfl) (hD.sub (ws' := [(h0, .inr (1, [.ref v0, .ref p0, .int np, .ref k0])), (k0, .inl (cF, 5, .inr (.inr (.inl (vf_upd (vf_upd (vf_upd rr 0 (f_ac xx 0 16)) 1 (f_ac xx 1 16)) 2 (f_ac xx 2 16)))))), (x0, .inl (cF, 48, .inr (.inr (.inl xx))))]) [0, 1, 2] (by decide) rfl) hS ls (lv_sub hl [0, 1, 2, 3, 4] rfl)
                    exact loop11 13 3 (by omega) (by omega) _ _ (hP.sub (ws' := [(h0, .inr (1, [.ref v0, .ref p0, .int np, .ref k0])), (k0, .inl (cF, 5, .inr (.inr (.inl (vf_upd (vf_upd (vf_upd rr 0 (f_ac xx 0 16)) 1 (f_ac xx 1 16)) 2 (f_ac xx 2 16)))))), (x0, .inl (cF, 48, .inr (.inr (.inl xx))))]) [0, 1, 2] rfl) (hD.sub (ws' := [(h0, .inr (1, [.ref v0, .ref p0, .int np, .ref k0])), (k0, .inl (cF, 5, .inr (.inr (.inl (vf_upd (vf_upd (vf_upd rr 0 (f_ac xx 0 16)) 1 (f_ac xx 1 16)) 2 (f_ac xx 2 16)))))), (x0, .inl (cF, 48, .inr (.inr (.inl xx))))]) [0, 1, 2] (by decide) rfl) hS ls (show lv_has ls 5 [(4, .int (nI 3)), (3, .float (f_ac xx 3 3)), (2, .int 3), (1, .ref x0), (0, .ref h0)] by rw [show nI 3 = (3 : Int32) from (by decide), f_ac_k]; exact lv_sub hl [0, 1, 2, 3, 4] rfl)
                  · exact absurd (by decide) c9
                | succ n ih =>
                  intro i hi hk H locs hP hD hS ls hl
                  have hi1 : i < 16 := by omega
                  refine lv_iload hx hb dCod_measure_12 (lv_at hl 0 rfl) ?_
                  refine lv_bipush (v := 16) hx hb dCod_measure_14 (by decide) ?_
                  refine lv_icmp_ge (tgt := 39) hx hb dCod_measure_16 (by decide) (fun c20 => ?_) (fun c20 => ?_)
                  · exact absurd c20 (lt_up (N := 16) (by decide) hi1 (by decide))
                  · refine lv_fload_n hx hb dCod_measure_19 rfl (lv_at hl 1 rfl) ?_
                    refine lv_aload_n hx hb dCod_measure_20 rfl (lv_at hl 3 rfl) ?_
                    refine lv_iload hx hb dCod_measure_21 (lv_at hl 0 rfl) ?_
                    refine k_fald (j := i) hx hb hK hP 2 0 rfl rfl (vp_in_nI (by omega) (by decide)) (nI_clamp (by omega)) dCod_measure_23 ?_
                    refine lv_aload_n hx hb dCod_measure_24 rfl (lv_at hl 3 rfl) ?_
                    refine lv_iload hx hb dCod_measure_25 (lv_at hl 0 rfl) ?_
                    refine lv_iload_n hx hb dCod_measure_27 rfl (lv_at hl 2 rfl) ?_
                    refine k_isub (v := nI (i - 2)) hx hb dCod_measure_28 (sub_lit (by decide) hk) ?_
                    refine k_fald (j := (i - 2)) hx hb hK hP 2 0 rfl rfl (vp_in_nI (by omega) (by decide)) (nI_clamp (by omega)) dCod_measure_29 ?_
                    refine lv_fmul hx hb dCod_measure_30 (fk_n (fk_mul (hx9 _) (hx9 _) (by decide) (by decide)) (by decide)) ?_
                    refine lv_fadd hx hb dCod_measure_31 (fk_n (fk_add (K := 192) (fk_mono (fk_mono (K' := 192) (ac_k hx9 2 i (by omega)) (by omega)) (by decide)) (fk_mono (fk_mul (hx9 _) (hx9 _) (by decide) (by decide)) (by decide)) (by decide)) (by decide)) ?_
                    rw [show FP.fadd (f_ac xx 2 i) (FP.fmul (xx i) (xx (i - 2))) = f_ac xx 2 (i + 1) from (f_ac_s hk)]
                    refine lv_fstore_n (lv' := [(3, .float (f_ac xx 2 (i + 1))), (4, .int (nI i)), (2, .int 2), (1, .ref x0), (0, .ref h0)]) hx hb dCod_measure_32 rfl hl (by decide) rfl (fun ls hl => ?_)
                    refine lv_iinc (v := nI (i + 1)) (lv' := [(4, .int (nI (i + 1))), (3, .float (f_ac xx 2 (i + 1))), (2, .int 2), (1, .ref x0), (0, .ref h0)]) hx hb dCod_measure_33 hl (k := 1) rfl (nI_1 i) (by decide) rfl (fun ls hl => ?_)
                    refine lv_goto (tgt := 12) hx hb dCod_measure_36 (by decide) ?_
                    exact ih (i + 1) (by omega) (by omega) _ _ (hP.sub (ws' := [(h0, .inr (1, [.ref v0, .ref p0, .int np, .ref k0])), (k0, .inl (cF, 5, .inr (.inr (.inl (vf_upd (vf_upd rr 0 (f_ac xx 0 16)) 1 (f_ac xx 1 16)))))), (x0, .inl (cF, 48, .inr (.inr (.inl xx))))]) [0, 1, 2] rfl) (hD.sub (ws' := [(h0, .inr (1, [.ref v0, .ref p0, .int np, .ref k0])), (k0, .inl (cF, 5, .inr (.inr (.inl (vf_upd (vf_upd rr 0 (f_ac xx 0 16)) 1 (f_ac xx 1 16)))))), (x0, .inl (cF, 48, .inr (.inr (.inl xx))))]) [0, 1, 2] (by decide) rfl) hS ls (lv_sub hl [0, 1, 2, 3, 4] rfl)
              exact loop8 14 2 (by omega) (by omega) _ _ (hP.sub (ws' := [(h0, .inr (1, [.ref v0, .ref p0, .int np, .ref k0])), (k0, .inl (cF, 5, .inr (.inr (.inl (vf_upd (vf_upd rr 0 (f_ac xx 0 16)) 1 (f_ac xx 1 16)))))), (x0, .inl (cF, 48, .inr (.inr (.inl xx))))]) [0, 1, 2] rfl) (hD.sub (ws' := [(h0, .inr (1, [.ref v0, .ref p0, .int np, .ref k0])), (k0, .inl (cF, 5, .inr (.inr (.inl (vf_upd (vf_upd rr 0 (f_ac xx 0 16)) 1 (f_ac xx 1 16)))))), (x0, .inl (cF, 48, .inr (.inr (.inl xx))))]) [0, 1, 2] (by decide) rfl) hS ls (show lv_has ls 5 [(4, .int (nI 2)), (3, .float (f_ac xx 2 2)), (2, .int 2), (1, .ref x0), (0, .ref h0)] by rw [show nI 2 = (2 : Int32) from (by decide), f_ac_k]; exact lv_sub hl [0, 1, 2, 3, 4] rfl)
            · exact absurd (by decide) c6
          | succ n ih =>
            intro i hi hk H locs hP hD hS ls hl
            have hi1 : i < 16 := by omega
            refine lv_iload hx hb dCod_measure_12 (lv_at hl 0 rfl) ?_
            refine lv_bipush (v := 16) hx hb dCod_measure_14 (by decide) ?_
            refine lv_icmp_ge (tgt := 39) hx hb dCod_measure_16 (by decide) (fun c21 => ?_) (fun c21 => ?_)
            · exact absurd c21 (lt_up (N := 16) (by decide) hi1 (by decide))
            · refine lv_fload_n hx hb dCod_measure_19 rfl (lv_at hl 1 rfl) ?_
              refine lv_aload_n hx hb dCod_measure_20 rfl (lv_at hl 3 rfl) ?_
              refine lv_iload hx hb dCod_measure_21 (lv_at hl 0 rfl) ?_
              refine k_fald (j := i) hx hb hK hP 2 0 rfl rfl (vp_in_nI (by omega) (by decide)) (nI_clamp (by omega)) dCod_measure_23 ?_
              refine lv_aload_n hx hb dCod_measure_24 rfl (lv_at hl 3 rfl) ?_
              refine lv_iload hx hb dCod_measure_25 (lv_at hl 0 rfl) ?_
              refine lv_iload_n hx hb dCod_measure_27 rfl (lv_at hl 2 rfl) ?_
              refine k_isub (v := nI (i - 1)) hx hb dCod_measure_28 (sub_lit (by decide) hk) ?_
              refine k_fald (j := (i - 1)) hx hb hK hP 2 0 rfl rfl (vp_in_nI (by omega) (by decide)) (nI_clamp (by omega)) dCod_measure_29 ?_
              refine lv_fmul hx hb dCod_measure_30 (fk_n (fk_mul (hx9 _) (hx9 _) (by decide) (by decide)) (by decide)) ?_
              refine lv_fadd hx hb dCod_measure_31 (fk_n (fk_add (K := 192) (fk_mono (fk_mono (K' := 192) (ac_k hx9 1 i (by omega)) (by omega)) (by decide)) (fk_mono (fk_mul (hx9 _) (hx9 _) (by decide) (by decide)) (by decide)) (by decide)) (by decide)) ?_
              rw [show FP.fadd (f_ac xx 1 i) (FP.fmul (xx i) (xx (i - 1))) = f_ac xx 1 (i + 1) from (f_ac_s hk)]
              refine lv_fstore_n (lv' := [(3, .float (f_ac xx 1 (i + 1))), (4, .int (nI i)), (2, .int 1), (1, .ref x0), (0, .ref h0)]) hx hb dCod_measure_32 rfl hl (by decide) rfl (fun ls hl => ?_)
              refine lv_iinc (v := nI (i + 1)) (lv' := [(4, .int (nI (i + 1))), (3, .float (f_ac xx 1 (i + 1))), (2, .int 1), (1, .ref x0), (0, .ref h0)]) hx hb dCod_measure_33 hl (k := 1) rfl (nI_1 i) (by decide) rfl (fun ls hl => ?_)
              refine lv_goto (tgt := 12) hx hb dCod_measure_36 (by decide) ?_
              exact ih (i + 1) (by omega) (by omega) _ _ (hP.sub (ws' := [(h0, .inr (1, [.ref v0, .ref p0, .int np, .ref k0])), (k0, .inl (cF, 5, .inr (.inr (.inl (vf_upd rr 0 (f_ac xx 0 16)))))), (x0, .inl (cF, 48, .inr (.inr (.inl xx))))]) [0, 1, 2] rfl) (hD.sub (ws' := [(h0, .inr (1, [.ref v0, .ref p0, .int np, .ref k0])), (k0, .inl (cF, 5, .inr (.inr (.inl (vf_upd rr 0 (f_ac xx 0 16)))))), (x0, .inl (cF, 48, .inr (.inr (.inl xx))))]) [0, 1, 2] (by decide) rfl) hS ls (lv_sub hl [0, 1, 2, 3, 4] rfl)
        exact loop5 15 1 (by omega) (by omega) _ _ (hP.sub (ws' := [(h0, .inr (1, [.ref v0, .ref p0, .int np, .ref k0])), (k0, .inl (cF, 5, .inr (.inr (.inl (vf_upd rr 0 (f_ac xx 0 16)))))), (x0, .inl (cF, 48, .inr (.inr (.inl xx))))]) [0, 1, 2] rfl) (hD.sub (ws' := [(h0, .inr (1, [.ref v0, .ref p0, .int np, .ref k0])), (k0, .inl (cF, 5, .inr (.inr (.inl (vf_upd rr 0 (f_ac xx 0 16)))))), (x0, .inl (cF, 48, .inr (.inr (.inl xx))))]) [0, 1, 2] (by decide) rfl) hS ls (show lv_has ls 5 [(4, .int (nI 1)), (3, .float (f_ac xx 1 1)), (2, .int 1), (1, .ref x0), (0, .ref h0)] by rw [show nI 1 = (1 : Int32) from (by decide), f_ac_k]; exact lv_sub hl [0, 1, 2, 3, 4] rfl)
      · exact absurd (by decide) c3
    | succ n ih =>
      intro i hi hk H locs hP hD hS ls hl
      have hi1 : i < 16 := by omega
      refine lv_iload hx hb dCod_measure_12 (lv_at hl 0 rfl) ?_
      refine lv_bipush (v := 16) hx hb dCod_measure_14 (by decide) ?_
      refine lv_icmp_ge (tgt := 39) hx hb dCod_measure_16 (by decide) (fun c22 => ?_) (fun c22 => ?_)
      · exact absurd c22 (lt_up (N := 16) (by decide) hi1 (by decide))
      · refine lv_fload_n hx hb dCod_measure_19 rfl (lv_at hl 1 rfl) ?_
        refine lv_aload_n hx hb dCod_measure_20 rfl (lv_at hl 3 rfl) ?_
        refine lv_iload hx hb dCod_measure_21 (lv_at hl 0 rfl) ?_
        refine k_fald (j := i) hx hb hK hP 2 0 rfl rfl (vp_in_nI (by omega) (by decide)) (nI_clamp (by omega)) dCod_measure_23 ?_
        refine lv_aload_n hx hb dCod_measure_24 rfl (lv_at hl 3 rfl) ?_
        refine lv_iload hx hb dCod_measure_25 (lv_at hl 0 rfl) ?_
        refine lv_iload_n hx hb dCod_measure_27 rfl (lv_at hl 2 rfl) ?_
        refine k_isub (v := nI (i - 0)) hx hb dCod_measure_28 (sub_lit (by decide) hk) ?_
        refine k_fald (j := (i - 0)) hx hb hK hP 2 0 rfl rfl (vp_in_nI (by omega) (by decide)) (nI_clamp (by omega)) dCod_measure_29 ?_
        refine lv_fmul hx hb dCod_measure_30 (fk_n (fk_mul (hx9 _) (hx9 _) (by decide) (by decide)) (by decide)) ?_
        refine lv_fadd hx hb dCod_measure_31 (fk_n (fk_add (K := 192) (fk_mono (fk_mono (K' := 192) (ac_k hx9 0 i (by omega)) (by omega)) (by decide)) (fk_mono (fk_mul (hx9 _) (hx9 _) (by decide) (by decide)) (by decide)) (by decide)) (by decide)) ?_
        rw [show FP.fadd (f_ac xx 0 i) (FP.fmul (xx i) (xx (i - 0))) = f_ac xx 0 (i + 1) from (f_ac_s hk)]
        refine lv_fstore_n (lv' := [(3, .float (f_ac xx 0 (i + 1))), (4, .int (nI i)), (2, .int 0), (1, .ref x0), (0, .ref h0)]) hx hb dCod_measure_32 rfl hl (by decide) rfl (fun ls hl => ?_)
        refine lv_iinc (v := nI (i + 1)) (lv' := [(4, .int (nI (i + 1))), (3, .float (f_ac xx 0 (i + 1))), (2, .int 0), (1, .ref x0), (0, .ref h0)]) hx hb dCod_measure_33 hl (k := 1) rfl (nI_1 i) (by decide) rfl (fun ls hl => ?_)
        refine lv_goto (tgt := 12) hx hb dCod_measure_36 (by decide) ?_
        exact ih (i + 1) (by omega) (by omega) _ _ (hP.sub (ws' := [(h0, .inr (1, [.ref v0, .ref p0, .int np, .ref k0])), (k0, .inl (cF, 5, .inr (.inr (.inl rr)))), (x0, .inl (cF, 48, .inr (.inr (.inl xx))))]) [0, 1, 2] rfl) (hD.sub (ws' := [(h0, .inr (1, [.ref v0, .ref p0, .int np, .ref k0])), (k0, .inl (cF, 5, .inr (.inr (.inl rr)))), (x0, .inl (cF, 48, .inr (.inr (.inl xx))))]) [0, 1, 2] (by decide) rfl) hS ls (lv_sub hl [0, 1, 2, 3, 4] rfl)
  exact loop2 16 0 (by omega) (by omega) _ _ (hP.sub (ws' := [(h0, .inr (1, [.ref v0, .ref p0, .int np, .ref k0])), (k0, .inl (cF, 5, .inr (.inr (.inl rr)))), (x0, .inl (cF, 48, .inr (.inr (.inl xx))))]) [0, 1, 2] rfl) (hD.sub (ws' := [(h0, .inr (1, [.ref v0, .ref p0, .int np, .ref k0])), (k0, .inl (cF, 5, .inr (.inr (.inl rr)))), (x0, .inl (cF, 48, .inr (.inr (.inl xx))))]) [0, 1, 2] (by decide) rfl) hS ls (show lv_has ls 5 [(4, .int (nI 0)), (3, .float (f_ac xx 0 0)), (2, .int 0), (1, .ref x0), (0, .ref h0)] by rw [show nI 0 = (0 : Int32) from (by decide), f_ac_k]; exact lv_sub hl [0, 1, 2, 4, 3] rfl)

set_option maxHeartbeats 4000000 in
set_option maxRecDepth 100000 in
theorem c_Cod_chooseCodes (l : Launch) (D : va_G) (cF cI : ClassId) (sz : Nat) (h0 v0 p0 k0 p1 p2 p3 : Nat) (np : Int32) (pl : Int32) (pg : Int32) (kc : Nat → Int32) (ww : Nat → UInt32) (rr : Nat → UInt32) (hrr : ∀ j, fk 192 (rr j)) : Met l yCod_chooseCodes (.code yCod_chooseCodes cCod_chooseCodes 6 none :: TB) ({ frames := 2, cells := 0, slots := 0, locals := 44 }) (va_Pc [.ref h0] (cPre D cF cI [(h0, .inr (1, [.ref v0, .ref p0, .int np, .ref k0])), (p0, .inr (3, [.int pl, .int pg, .ref p1, .ref p2, .ref p3])), (p1, .inl (cI, 5, .inl kc)), (p2, .inl (cF, 5, .inr (.inr (.inl ww)))), (k0, .inl (cF, 5, .inr (.inr (.inl rr))))] sz)) (va_Qv (fun _ : Unit => True) (cB D cF cI (va_A [(h0, .inr (1, [.ref v0, .ref p0, .int np, .ref k0])), (p0, .inr (3, [.int pl, .int pg, .ref p1, .ref p2, .ref p3])), (p1, .inl (cI, 5, .inl kc)), (p2, .inl (cF, 5, .inr (.inr (.inl ww)))), (k0, .inl (cF, 5, .inr (.inr (.inl rr))))] sz) (fun _ : Unit => [(h0, .inr (1, [.ref v0, .ref p0, .int np, .ref k0])), (p0, .inr (3, [.int pl, .int pg, .ref p1, .ref p2, .ref p3])), (p1, .inl (cI, 5, .inl (k_set kc (cK1 rr) (cK2 ww rr) (cK3 ww rr) (cK4 ww rr)))), (p2, .inl (cF, 5, .inr (.inr (.inl (f_lpc ww (cK1 rr) (cK2 ww rr) (cK3 ww rr) (cK4 ww rr)))))), (k0, .inl (cF, 5, .inr (.inr (.inl rr))))])) (va_A [(h0, .inr (1, [.ref v0, .ref p0, .int np, .ref k0])), (p0, .inr (3, [.int pl, .int pg, .ref p1, .ref p2, .ref p3])), (p1, .inl (cI, 5, .inl kc)), (p2, .inl (cF, 5, .inr (.inr (.inl ww)))), (k0, .inl (cF, 5, .inr (.inr (.inl rr))))] sz)) 0 0 (va_A [(h0, .inr (1, [.ref v0, .ref p0, .int np, .ref k0])), (p0, .inr (3, [.int pl, .int pg, .ref p1, .ref p2, .ref p3])), (p1, .inl (cI, 5, .inl kc)), (p2, .inl (cF, 5, .inr (.inr (.inl ww)))), (k0, .inl (cF, 5, .inr (.inr (.inl rr))))] sz) := by
  refine c_ofW (own := RCod) (by decide) rfl (fun p e s m below meth c hsz hx hb hr hml hown ht hlk hin hP hK hD hmb => ?_)
  subst hsz
  generalize hAe : va_A [(h0, .inr (1, [.ref v0, .ref p0, .int np, .ref k0])), (p0, .inr (3, [.int pl, .int pg, .ref p1, .ref p2, .ref p3])), (p1, .inl (cI, 5, .inl kc)), (p2, .inl (cF, 5, .inr (.inr (.inl ww)))), (k0, .inl (cF, 5, .inr (.inr (.inl rr))))] s.heap.size = A at hD ⊢
  have hA : ∀ q : Nat, s.heap.size ≤ q → A q := fun q h => by rw [← hAe]; exact Or.inr h
  have hS : va_S A s.heap s.heap [] := va_S.rf
  have hl := lv_entry ([.ref h0]) (n := 6) (Nat.le_of_ble_eq_true rfl)
  rw [lg_entry_eq]
  generalize (lg_sl ([.ref h0]) ++ List.replicate (6 - (lg_sl ([.ref h0])).length) Slot.unset).toArray = ls at hl ⊢
  have hl : lv_has ls 6 [(0, .ref h0)] := hl
  refine lv_aload_n hx hb dCod_chooseCodes_0 rfl (lv_at hl 0 rfl) ?_
  refine va_get (D := D) (ci := 1) (v := .ref k0) hx hb ht inCod hown hK hP 0 rfl rfl 3 (by decide) (ht _ kf_Cod_25) (fun _ h9 => h9) rfl dCod_chooseCodes_1 ?_
  refine lv_iconst (v := 0) hx hb dCod_chooseCodes_4 (by decide) ?_
  refine k_fald (j := 0) hx hb hK hP 4 0 rfl rfl (by unfold vp_in; decide) rfl dCod_chooseCodes_5 ?_
  refine lv_fstore_n (lv' := [(1, .float (rr 0)), (0, .ref h0)]) hx hb dCod_chooseCodes_6 rfl hl (by decide) rfl (fun ls hl => ?_)
  refine lv_iconst (v := 1) hx hb dCod_chooseCodes_7 (by decide) ?_
  refine lv_istore_n (lv' := [(2, .int 1), (1, .float (rr 0)), (0, .ref h0)]) hx hb dCod_chooseCodes_8 rfl hl (by decide) rfl (fun ls hl => ?_)
  refine lv_iload_n hx hb dCod_chooseCodes_9 rfl (lv_at hl 0 rfl) ?_
  refine lv_iconst (v := 4) hx hb dCod_chooseCodes_10 (by decide) ?_
  refine lv_icmp_gt (tgt := 104) hx hb dCod_chooseCodes_11 (by decide) (fun c9 => absurd c9 (by decide)) (fun _ => ?_)
  refine lv_aload_n hx hb dCod_chooseCodes_14 rfl (lv_at hl 2 rfl) ?_
  refine va_get (D := D) (ci := 1) (v := .ref k0) hx hb ht inCod hown hK hP 0 rfl rfl 3 (by decide) (ht _ kf_Cod_25) (fun _ h9 => h9) rfl dCod_chooseCodes_15 ?_
  refine lv_iload_n hx hb dCod_chooseCodes_18 rfl (lv_at hl 0 rfl) ?_
  refine k_fald (j := 1) hx hb hK hP 4 0 rfl rfl (by unfold vp_in; decide) rfl dCod_chooseCodes_19 ?_
  refine lv_fstore_n (lv' := [(3, .float (rr 1)), (2, .int 1), (1, .float (rr 0)), (0, .ref h0)]) hx hb dCod_chooseCodes_20 rfl hl (by decide) rfl (fun ls hl => ?_)
  refine lv_iconst (v := 1) hx hb dCod_chooseCodes_21 (by decide) ?_
  refine lv_istore (lv' := [(4, .int 1), (3, .float (rr 1)), (2, .int 1), (1, .float (rr 0)), (0, .ref h0)]) hx hb dCod_chooseCodes_22 hl (by decide) rfl (fun ls hl => ?_)
  refine lv_iload hx hb dCod_chooseCodes_24 (lv_at hl 0 rfl) ?_
  refine lv_iload_n hx hb dCod_chooseCodes_26 rfl (lv_at hl 2 rfl) ?_
  refine lv_icmp_ge (tgt := 59) hx hb dCod_chooseCodes_27 (by decide) (fun _ => ?_) (fun c9 => absurd (by decide) c9)
  refine lv_fload_n hx hb dCod_chooseCodes_59 rfl (lv_at hl 1 rfl) ?_
  refine lv_fload_n hx hb dCod_chooseCodes_60 rfl (lv_at hl 3 rfl) ?_
  refine q_f (wc := []) (wr := [(h0, .inr (1, [.ref v0, .ref p0, .int np, .ref k0])), (p0, .inr (3, [.int pl, .int pg, .ref p1, .ref p2, .ref p3])), (p1, .inl (cI, 5, .inl kc)), (p2, .inl (cF, 5, .inr (.inr (.inl ww)))), (k0, .inl (cF, 5, .inr (.inr (.inl rr))))]) [] [0, 1, 2, 3, 4] hK hP hD hS hA rfl rfl (by decide) (by decide) (va_runSN (As := [.float (rr 1), .float (rr 0)]) (rest := []) ⟨hx, hb, hml, hown, ht⟩ (c_VF_quotient l D cF cI s.heap.size (rr 1) (rr 0) (n_quo (hrr _) (hrr _) (by decide) (by decide))) ⟨va_cnB 2 ht (g_C kc_VF_quotient) rfl rfl rfl (hmb.1 _ (List.mem_of_getElem? (i := 7) rfl)) (ht _ kI_VF) (by decide +kernel) ⟨Nat.le_of_ble_eq_true rfl, Nat.le_of_ble_eq_true rfl⟩, ht _ ks_VF_quotient, trivial⟩ (cPre_S hK hmb (hP.sub (ws' := []) [] rfl) (hD.sub (ws' := []) [] (by decide) rfl)) rfl rfl hl.1 rfl (lv_room (Nat.le_of_ble_eq_true rfl)) dCod_chooseCodes_61 ⟨Nat.le_of_ble_eq_true rfl, Nat.le_of_ble_eq_true rfl⟩) (fun r3 u4 H locs w5 hP hD hS => ?_)
  subst w5
  have hP : va_P D vwCl [(h0, .inr (1, [.ref v0, .ref p0, .int np, .ref k0])), (p0, .inr (3, [.int pl, .int pg, .ref p1, .ref p2, .ref p3])), (p1, .inl (cI, 5, .inl kc)), (p2, .inl (cF, 5, .inr (.inr (.inl ww)))), (k0, .inl (cF, 5, .inr (.inr (.inl rr))))] H := hP
  have hD : va_D A [(h0, .inr (1, [.ref v0, .ref p0, .int np, .ref k0])), (p0, .inr (3, [.int pl, .int pg, .ref p1, .ref p2, .ref p3])), (p1, .inl (cI, 5, .inl kc)), (p2, .inl (cF, 5, .inr (.inr (.inl ww)))), (k0, .inl (cF, 5, .inr (.inr (.inl rr))))] := hD
  refine lv_fstore (lv' := [(4, .float (f_quo (rr 1) (rr 0))), (3, .float (rr 1)), (2, .int 1), (1, .float (rr 0)), (0, .ref h0)]) hx hb dCod_chooseCodes_64 hl (by decide) rfl (fun ls hl => ?_)
  refine lv_aload_n hx hb dCod_chooseCodes_66 rfl (lv_at hl 4 rfl) ?_
  refine va_get (D := D) (ci := 1) (v := .ref p0) hx hb ht inCod hown hK hP 0 rfl rfl 1 (by decide) (ht _ kf_Cod_21) (fun _ h9 => h9) rfl dCod_chooseCodes_67 ?_
  refine lv_iload_n hx hb dCod_chooseCodes_70 rfl (lv_at hl 2 rfl) ?_
  refine lv_fload hx hb dCod_chooseCodes_71 (lv_at hl 0 rfl) ?_
  refine lv_ldcf (v := 1098907648) hx hb hown (ht _ kk_Cod_78) dCod_chooseCodes_73 ?_
  refine lv_fmul hx hb dCod_chooseCodes_75 (n_16 (n_fq (hrr _) (hrr _) (by decide) (by decide))) ?_
  refine lv_bipush (v := (-15)) hx hb dCod_chooseCodes_76 (by decide) ?_
  refine lv_bipush (v := 15) hx hb dCod_chooseCodes_78 (by decide) ?_
  refine q_i (wc := []) (wr := [(h0, .inr (1, [.ref v0, .ref p0, .int np, .ref k0])), (p0, .inr (3, [.int pl, .int pg, .ref p1, .ref p2, .ref p3])), (p1, .inl (cI, 5, .inl kc)), (p2, .inl (cF, 5, .inr (.inr (.inl ww)))), (k0, .inl (cF, 5, .inr (.inr (.inl rr))))]) [] [0, 1, 2, 3, 4] hK hP hD hS hA rfl rfl (by decide) (by decide) (va_runSN (As := [.float (FP.fmul (f_quo (rr 1) (rr 0)) 1098907648), .int (-15), .int 15]) (rest := [.int 1, .ref p0]) ⟨hx, hb, hml, hown, ht⟩ (c_VF_rounded l D cF cI H.size (FP.fmul (f_quo (rr 1) (rr 0)) 1098907648) (-15) 15 (n_r1 (n_16 (n_fq (hrr _) (hrr _) (by decide) (by decide)))) (n_r2 (n_16 (n_fq (hrr _) (hrr _) (by decide) (by decide))))) ⟨va_cnB 3 ht (g_C kc_VF_rounded) rfl rfl rfl (hmb.1 _ (List.mem_of_getElem? (i := 8) rfl)) (ht _ kI_VF) (by decide +kernel) ⟨Nat.le_of_ble_eq_true rfl, Nat.le_of_ble_eq_true rfl⟩, ht _ ks_VF_rounded, trivial⟩ (cPre_S hK hmb (hP.sub (ws' := []) [] rfl) (hD.sub (ws' := []) [] (by decide) rfl)) rfl rfl hl.1 rfl (lv_room (Nat.le_of_ble_eq_true rfl)) dCod_chooseCodes_80 ⟨Nat.le_of_ble_eq_true rfl, Nat.le_of_ble_eq_true rfl⟩) (fun r6 u7 H locs w8 hP hD hS => ?_)
  subst w8
  have hP : va_P D vwCl [(h0, .inr (1, [.ref v0, .ref p0, .int np, .ref k0])), (p0, .inr (3, [.int pl, .int pg, .ref p1, .ref p2, .ref p3])), (p1, .inl (cI, 5, .inl kc)), (p2, .inl (cF, 5, .inr (.inr (.inl ww)))), (k0, .inl (cF, 5, .inr (.inr (.inl rr))))] H := hP
  have hD : va_D A [(h0, .inr (1, [.ref v0, .ref p0, .int np, .ref k0])), (p0, .inr (3, [.int pl, .int pg, .ref p1, .ref p2, .ref p3])), (p1, .inl (cI, 5, .inl kc)), (p2, .inl (cF, 5, .inr (.inr (.inl ww)))), (k0, .inl (cF, 5, .inr (.inr (.inl rr))))] := hD
  refine W.eq (g2 := F0 m 83 ls [.int (cK1 rr), .int 1, .ref p0]) rfl ?_
  refine q_f (wc := [(p0, .inr (3, [.int pl, .int pg, .ref p1, .ref p2, .ref p3])), (p1, .inl (cI, 5, .inl kc)), (p2, .inl (cF, 5, .inr (.inr (.inl ww))))]) (wr := [(h0, .inr (1, [.ref v0, .ref p0, .int np, .ref k0])), (k0, .inl (cF, 5, .inr (.inr (.inl rr))))]) [1, 2, 3] [0, 4] hK hP hD hS hA rfl rfl (by decide) (by decide) (va_runV (As := [.int 1, .int (cK1 rr)]) (rest := []) ⟨hx, hb, hml, hown, ht⟩ (c_Pac_takeCode_1 l D cF cI H.size p0 p1 p2 p3 pl pg kc ww (cK1 rr) (rnd_ok _) b_0) (cwV 2 ht (g_V km_Cod_83 ki_Pac_takeCode kv_Pac_takeCode kI_Pac kc_Pac_takeCode) rfl rfl rfl (by decide +kernel) ⟨Nat.le_of_ble_eq_true rfl, Nat.le_of_ble_eq_true rfl⟩) (cPre_V (ci := 3) (q0 := 0) hK hmb (hP.sub (ws' := [(p0, .inr (3, [.int pl, .int pg, .ref p1, .ref p2, .ref p3])), (p1, .inl (cI, 5, .inl kc)), (p2, .inl (cF, 5, .inr (.inr (.inl ww))))]) [1, 2, 3] rfl) (hD.sub (ws' := [(p0, .inr (3, [.int pl, .int pg, .ref p1, .ref p2, .ref p3])), (p1, .inl (cI, 5, .inl kc)), (p2, .inl (cF, 5, .inr (.inr (.inl ww))))]) [1, 2, 3] (by decide) rfl) rfl rfl) rfl rfl hl.1 rfl (lv_room (Nat.le_of_ble_eq_true rfl)) dCod_chooseCodes_83 ⟨Nat.le_of_ble_eq_true rfl, Nat.le_of_ble_eq_true rfl⟩) (fun r9 u10 H locs w11 hP hD hS => ?_)
  subst w11
  have hP : va_P D vwCl [(h0, .inr (1, [.ref v0, .ref p0, .int np, .ref k0])), (k0, .inl (cF, 5, .inr (.inr (.inl rr)))), (p0, .inr (3, [.int pl, .int pg, .ref p1, .ref p2, .ref p3])), (p1, .inl (cI, 5, .inl (upd kc 1 (cK1 rr)))), (p2, .inl (cF, 5, .inr (.inr (.inl (f_lev 1 ww (f_q (cK1 rr)))))))] H := hP
  have hD : va_D A [(h0, .inr (1, [.ref v0, .ref p0, .int np, .ref k0])), (k0, .inl (cF, 5, .inr (.inr (.inl rr)))), (p0, .inr (3, [.int pl, .int pg, .ref p1, .ref p2, .ref p3])), (p1, .inl (cI, 5, .inl (upd kc 1 (cK1 rr)))), (p2, .inl (cF, 5, .inr (.inr (.inl (f_lev 1 ww (f_q (cK1 rr)))))))] := hD
  refine lv_fstore (lv' := [(5, .float (f_q (cK1 rr))), (4, .float (f_quo (rr 1) (rr 0))), (3, .float (rr 1)), (2, .int 1), (1, .float (rr 0)), (0, .ref h0)]) hx hb dCod_chooseCodes_86 hl (by decide) rfl (fun ls hl => ?_)
  refine lv_fload_n hx hb dCod_chooseCodes_88 rfl (lv_at hl 4 rfl) ?_
  refine lv_fconst1 hx hb dCod_chooseCodes_89 ?_
  refine lv_fload hx hb dCod_chooseCodes_90 (lv_at hl 0 rfl) ?_
  refine lv_fload hx hb dCod_chooseCodes_92 (lv_at hl 0 rfl) ?_
  refine lv_fmul hx hb dCod_chooseCodes_94 (fk_n (fk_mul (q_k (rnd_ok _)) (q_k (rnd_ok _)) (by decide) (by decide)) (by decide)) ?_
  refine lv_fsub hx hb dCod_chooseCodes_95 (fk_n (fk_sub (K := 128) (fk_mono (show fk 128 FP.fconst1 by unfold fk; decide) (by decide)) (fk_mono (fk_mul (q_k (rnd_ok _)) (q_k (rnd_ok _)) (by decide) (by decide)) (by decide)) (by decide)) (by decide)) ?_
  refine lv_fmul hx hb dCod_chooseCodes_96 (fk_n (fk_mul (hrr _) (fk_sub (K := 128) (fk_mono (show fk 128 FP.fconst1 by unfold fk; decide) (by decide)) (fk_mono (fk_mul (q_k (rnd_ok _)) (q_k (rnd_ok _)) (by decide) (by decide)) (by decide)) (by decide)) (by decide) (by decide)) (by decide)) ?_
  refine lv_fstore_n (lv' := [(1, .float (FP.fmul (rr 0) (FP.fsub FP.fconst1 (FP.fmul (f_q (cK1 rr)) (f_q (cK1 rr)))))), (5, .float (f_q (cK1 rr))), (4, .float (f_quo (rr 1) (rr 0))), (3, .float (rr 1)), (2, .int 1), (0, .ref h0)]) hx hb dCod_chooseCodes_97 rfl hl (by decide) rfl (fun ls hl => ?_)
  refine lv_iinc (v := 2) (lv' := [(2, .int 2), (1, .float (FP.fmul (rr 0) (FP.fsub FP.fconst1 (FP.fmul (f_q (cK1 rr)) (f_q (cK1 rr)))))), (5, .float (f_q (cK1 rr))), (4, .float (f_quo (rr 1) (rr 0))), (3, .float (rr 1)), (0, .ref h0)]) hx hb dCod_chooseCodes_98 hl (k := 4) rfl (by decide) (by decide) rfl (fun ls hl => ?_)
  refine lv_goto (tgt := 9) hx hb dCod_chooseCodes_101 (by decide) ?_
  refine lv_iload_n hx hb dCod_chooseCodes_9 rfl (lv_at hl 0 rfl) ?_
  refine lv_iconst (v := 4) hx hb dCod_chooseCodes_10 (by decide) ?_
  refine lv_icmp_gt (tgt := 104) hx hb dCod_chooseCodes_11 (by decide) (fun c9 => absurd c9 (by decide)) (fun _ => ?_)
  refine lv_aload_n hx hb dCod_chooseCodes_14 rfl (lv_at hl 5 rfl) ?_
  refine va_get (D := D) (ci := 1) (v := .ref k0) hx hb ht inCod hown hK hP 0 rfl rfl 3 (by decide) (ht _ kf_Cod_25) (fun _ h9 => h9) rfl dCod_chooseCodes_15 ?_
  refine lv_iload_n hx hb dCod_chooseCodes_18 rfl (lv_at hl 0 rfl) ?_
  refine k_fald (j := 2) hx hb hK hP 1 0 rfl rfl (by unfold vp_in; decide) rfl dCod_chooseCodes_19 ?_
  refine lv_fstore_n (lv' := [(3, .float (rr 2)), (2, .int 2), (1, .float (FP.fmul (rr 0) (FP.fsub FP.fconst1 (FP.fmul (f_q (cK1 rr)) (f_q (cK1 rr)))))), (5, .float (f_q (cK1 rr))), (4, .float (f_quo (rr 1) (rr 0))), (0, .ref h0)]) hx hb dCod_chooseCodes_20 rfl hl (by decide) rfl (fun ls hl => ?_)
  refine lv_iconst (v := 1) hx hb dCod_chooseCodes_21 (by decide) ?_
  refine lv_istore (lv' := [(4, .int 1), (3, .float (rr 2)), (2, .int 2), (1, .float (FP.fmul (rr 0) (FP.fsub FP.fconst1 (FP.fmul (f_q (cK1 rr)) (f_q (cK1 rr)))))), (5, .float (f_q (cK1 rr))), (0, .ref h0)]) hx hb dCod_chooseCodes_22 hl (by decide) rfl (fun ls hl => ?_)
  refine lv_iload hx hb dCod_chooseCodes_24 (lv_at hl 0 rfl) ?_
  refine lv_iload_n hx hb dCod_chooseCodes_26 rfl (lv_at hl 2 rfl) ?_
  refine lv_icmp_ge (tgt := 59) hx hb dCod_chooseCodes_27 (by decide) (fun c9 => absurd c9 (by decide)) (fun _ => ?_)
  refine lv_fload_n hx hb dCod_chooseCodes_30 rfl (lv_at hl 1 rfl) ?_
  refine lv_aload_n hx hb dCod_chooseCodes_31 rfl (lv_at hl 5 rfl) ?_
  refine va_get (D := D) (ci := 1) (v := .ref p0) hx hb ht inCod hown hK hP 0 rfl rfl 1 (by decide) (ht _ kf_Cod_21) (fun _ h9 => h9) rfl dCod_chooseCodes_32 ?_
  refine va_get (D := D) (ci := 3) (v := .ref p2) hx hb ht inPac hown hK hP 2 rfl rfl 3 (by decide) (ht _ kf_Cod_71) (fun _ h9 => h9) rfl dCod_chooseCodes_35 ?_
  refine lv_iload hx hb dCod_chooseCodes_38 (lv_at hl 0 rfl) ?_
  refine k_fald (j := 1) hx hb hK hP 4 0 rfl rfl (by unfold vp_in; decide) rfl dCod_chooseCodes_40 ?_
  refine lv_aload_n hx hb dCod_chooseCodes_41 rfl (lv_at hl 5 rfl) ?_
  refine va_get (D := D) (ci := 1) (v := .ref k0) hx hb ht inCod hown hK hP 0 rfl rfl 3 (by decide) (ht _ kf_Cod_25) (fun _ h9 => h9) rfl dCod_chooseCodes_42 ?_
  refine lv_iload_n hx hb dCod_chooseCodes_45 rfl (lv_at hl 2 rfl) ?_
  refine lv_iload hx hb dCod_chooseCodes_46 (lv_at hl 0 rfl) ?_
  refine k_isub (v := 1) hx hb dCod_chooseCodes_48 (by decide) ?_
  refine k_fald (j := 1) hx hb hK hP 1 0 rfl rfl (by unfold vp_in; decide) rfl dCod_chooseCodes_49 ?_
  refine lv_fmul hx hb dCod_chooseCodes_50 (fk_n (fk_mul ((lev_k (q_k (rnd_ok _)) b_0 (by decide) (by decide)) 1 (by decide) (by decide)) (hrr _) (by decide) (by decide)) (by decide)) ?_
  refine lv_fsub hx hb dCod_chooseCodes_51 (fk_n (fk_sub (K := 193) (fk_mono (hrr _) (by decide)) (fk_mono (fk_mul ((lev_k (q_k (rnd_ok _)) b_0 (by decide) (by decide)) 1 (by decide) (by decide)) (hrr _) (by decide) (by decide)) (by decide)) (by decide)) (by decide)) ?_
  refine lv_fstore_n (lv' := [(3, .float (FP.fsub (rr 2) (FP.fmul ((f_lev 1 ww (f_q (cK1 rr))) 1) (rr 1)))), (4, .int 1), (2, .int 2), (1, .float (FP.fmul (rr 0) (FP.fsub FP.fconst1 (FP.fmul (f_q (cK1 rr)) (f_q (cK1 rr)))))), (5, .float (f_q (cK1 rr))), (0, .ref h0)]) hx hb dCod_chooseCodes_52 rfl hl (by decide) rfl (fun ls hl => ?_)
  refine lv_iinc (v := 2) (lv' := [(4, .int 2), (3, .float (FP.fsub (rr 2) (FP.fmul ((f_lev 1 ww (f_q (cK1 rr))) 1) (rr 1)))), (2, .int 2), (1, .float (FP.fmul (rr 0) (FP.fsub FP.fconst1 (FP.fmul (f_q (cK1 rr)) (f_q (cK1 rr)))))), (5, .float (f_q (cK1 rr))), (0, .ref h0)]) hx hb dCod_chooseCodes_53 hl (k := 1) rfl (by decide) (by decide) rfl (fun ls hl => ?_)
  refine lv_goto (tgt := 24) hx hb dCod_chooseCodes_56 (by decide) ?_
  refine lv_iload hx hb dCod_chooseCodes_24 (lv_at hl 0 rfl) ?_
  refine lv_iload_n hx hb dCod_chooseCodes_26 rfl (lv_at hl 2 rfl) ?_
  refine lv_icmp_ge (tgt := 59) hx hb dCod_chooseCodes_27 (by decide) (fun _ => ?_) (fun c9 => absurd (by decide) c9)
  refine lv_fload_n hx hb dCod_chooseCodes_59 rfl (lv_at hl 1 rfl) ?_
  refine lv_fload_n hx hb dCod_chooseCodes_60 rfl (lv_at hl 3 rfl) ?_
  refine q_f (wc := []) (wr := [(h0, .inr (1, [.ref v0, .ref p0, .int np, .ref k0])), (k0, .inl (cF, 5, .inr (.inr (.inl rr)))), (p0, .inr (3, [.int pl, .int pg, .ref p1, .ref p2, .ref p3])), (p1, .inl (cI, 5, .inl (upd kc 1 (cK1 rr)))), (p2, .inl (cF, 5, .inr (.inr (.inl (f_lev 1 ww (f_q (cK1 rr)))))))]) [] [0, 1, 2, 3, 4] hK hP hD hS hA rfl rfl (by decide) (by decide) (va_runSN (As := [.float (FP.fsub (rr 2) (FP.fmul ((f_lev 1 ww (f_q (cK1 rr))) 1) (rr 1))), .float (FP.fmul (rr 0) (FP.fsub FP.fconst1 (FP.fmul (f_q (cK1 rr)) (f_q (cK1 rr)))))]) (rest := []) ⟨hx, hb, hml, hown, ht⟩ (c_VF_quotient l D cF cI H.size (FP.fsub (rr 2) (FP.fmul ((f_lev 1 ww (f_q (cK1 rr))) 1) (rr 1))) (FP.fmul (rr 0) (FP.fsub FP.fconst1 (FP.fmul (f_q (cK1 rr)) (f_q (cK1 rr))))) (n_quo (fk_sub (K := 193) (fk_mono (hrr _) (by decide)) (fk_mono (fk_mul ((lev_k (q_k (rnd_ok _)) b_0 (by decide) (by decide)) 1 (by decide) (by decide)) (hrr _) (by decide) (by decide)) (by decide)) (by decide)) (fk_mul (hrr _) (fk_sub (K := 128) (fk_mono (show fk 128 FP.fconst1 by unfold fk; decide) (by decide)) (fk_mono (fk_mul (q_k (rnd_ok _)) (q_k (rnd_ok _)) (by decide) (by decide)) (by decide)) (by decide)) (by decide) (by decide)) (by decide) (by decide))) ⟨va_cnB 2 ht (g_C kc_VF_quotient) rfl rfl rfl (hmb.1 _ (List.mem_of_getElem? (i := 7) rfl)) (ht _ kI_VF) (by decide +kernel) ⟨Nat.le_of_ble_eq_true rfl, Nat.le_of_ble_eq_true rfl⟩, ht _ ks_VF_quotient, trivial⟩ (cPre_S hK hmb (hP.sub (ws' := []) [] rfl) (hD.sub (ws' := []) [] (by decide) rfl)) rfl rfl hl.1 rfl (lv_room (Nat.le_of_ble_eq_true rfl)) dCod_chooseCodes_61 ⟨Nat.le_of_ble_eq_true rfl, Nat.le_of_ble_eq_true rfl⟩) (fun r15 u16 H locs w17 hP hD hS => ?_)
  subst w17
  have hP : va_P D vwCl [(h0, .inr (1, [.ref v0, .ref p0, .int np, .ref k0])), (k0, .inl (cF, 5, .inr (.inr (.inl rr)))), (p0, .inr (3, [.int pl, .int pg, .ref p1, .ref p2, .ref p3])), (p1, .inl (cI, 5, .inl (upd kc 1 (cK1 rr)))), (p2, .inl (cF, 5, .inr (.inr (.inl (f_lev 1 ww (f_q (cK1 rr)))))))] H := hP
  have hD : va_D A [(h0, .inr (1, [.ref v0, .ref p0, .int np, .ref k0])), (k0, .inl (cF, 5, .inr (.inr (.inl rr)))), (p0, .inr (3, [.int pl, .int pg, .ref p1, .ref p2, .ref p3])), (p1, .inl (cI, 5, .inl (upd kc 1 (cK1 rr)))), (p2, .inl (cF, 5, .inr (.inr (.inl (f_lev 1 ww (f_q (cK1 rr)))))))] := hD
  refine lv_fstore (lv' := [(4, .float (f_quo (FP.fsub (rr 2) (FP.fmul ((f_lev 1 ww (f_q (cK1 rr))) 1) (rr 1))) (FP.fmul (rr 0) (FP.fsub FP.fconst1 (FP.fmul (f_q (cK1 rr)) (f_q (cK1 rr))))))), (3, .float (FP.fsub (rr 2) (FP.fmul ((f_lev 1 ww (f_q (cK1 rr))) 1) (rr 1)))), (2, .int 2), (1, .float (FP.fmul (rr 0) (FP.fsub FP.fconst1 (FP.fmul (f_q (cK1 rr)) (f_q (cK1 rr)))))), (5, .float (f_q (cK1 rr))), (0, .ref h0)]) hx hb dCod_chooseCodes_64 hl (by decide) rfl (fun ls hl => ?_)
  refine lv_aload_n hx hb dCod_chooseCodes_66 rfl (lv_at hl 5 rfl) ?_
  refine va_get (D := D) (ci := 1) (v := .ref p0) hx hb ht inCod hown hK hP 0 rfl rfl 1 (by decide) (ht _ kf_Cod_21) (fun _ h9 => h9) rfl dCod_chooseCodes_67 ?_
  refine lv_iload_n hx hb dCod_chooseCodes_70 rfl (lv_at hl 2 rfl) ?_
  refine lv_fload hx hb dCod_chooseCodes_71 (lv_at hl 0 rfl) ?_
  refine lv_ldcf (v := 1098907648) hx hb hown (ht _ kk_Cod_78) dCod_chooseCodes_73 ?_
  refine lv_fmul hx hb dCod_chooseCodes_75 (n_16 (n_fq (fk_sub (K := 193) (fk_mono (hrr _) (by decide)) (fk_mono (fk_mul ((lev_k (q_k (rnd_ok _)) b_0 (by decide) (by decide)) 1 (by decide) (by decide)) (hrr _) (by decide) (by decide)) (by decide)) (by decide)) (fk_mul (hrr _) (fk_sub (K := 128) (fk_mono (show fk 128 FP.fconst1 by unfold fk; decide) (by decide)) (fk_mono (fk_mul (q_k (rnd_ok _)) (q_k (rnd_ok _)) (by decide) (by decide)) (by decide)) (by decide)) (by decide) (by decide)) (by decide) (by decide))) ?_
  refine lv_bipush (v := (-15)) hx hb dCod_chooseCodes_76 (by decide) ?_
  refine lv_bipush (v := 15) hx hb dCod_chooseCodes_78 (by decide) ?_
  refine q_i (wc := []) (wr := [(h0, .inr (1, [.ref v0, .ref p0, .int np, .ref k0])), (k0, .inl (cF, 5, .inr (.inr (.inl rr)))), (p0, .inr (3, [.int pl, .int pg, .ref p1, .ref p2, .ref p3])), (p1, .inl (cI, 5, .inl (upd kc 1 (cK1 rr)))), (p2, .inl (cF, 5, .inr (.inr (.inl (f_lev 1 ww (f_q (cK1 rr)))))))]) [] [0, 1, 2, 3, 4] hK hP hD hS hA rfl rfl (by decide) (by decide) (va_runSN (As := [.float (FP.fmul (f_quo (FP.fsub (rr 2) (FP.fmul ((f_lev 1 ww (f_q (cK1 rr))) 1) (rr 1))) (FP.fmul (rr 0) (FP.fsub FP.fconst1 (FP.fmul (f_q (cK1 rr)) (f_q (cK1 rr)))))) 1098907648), .int (-15), .int 15]) (rest := [.int 2, .ref p0]) ⟨hx, hb, hml, hown, ht⟩ (c_VF_rounded l D cF cI H.size (FP.fmul (f_quo (FP.fsub (rr 2) (FP.fmul ((f_lev 1 ww (f_q (cK1 rr))) 1) (rr 1))) (FP.fmul (rr 0) (FP.fsub FP.fconst1 (FP.fmul (f_q (cK1 rr)) (f_q (cK1 rr)))))) 1098907648) (-15) 15 (n_r1 (n_16 (n_fq (fk_sub (K := 193) (fk_mono (hrr _) (by decide)) (fk_mono (fk_mul ((lev_k (q_k (rnd_ok _)) b_0 (by decide) (by decide)) 1 (by decide) (by decide)) (hrr _) (by decide) (by decide)) (by decide)) (by decide)) (fk_mul (hrr _) (fk_sub (K := 128) (fk_mono (show fk 128 FP.fconst1 by unfold fk; decide) (by decide)) (fk_mono (fk_mul (q_k (rnd_ok _)) (q_k (rnd_ok _)) (by decide) (by decide)) (by decide)) (by decide)) (by decide) (by decide)) (by decide) (by decide)))) (n_r2 (n_16 (n_fq (fk_sub (K := 193) (fk_mono (hrr _) (by decide)) (fk_mono (fk_mul ((lev_k (q_k (rnd_ok _)) b_0 (by decide) (by decide)) 1 (by decide) (by decide)) (hrr _) (by decide) (by decide)) (by decide)) (by decide)) (fk_mul (hrr _) (fk_sub (K := 128) (fk_mono (show fk 128 FP.fconst1 by unfold fk; decide) (by decide)) (fk_mono (fk_mul (q_k (rnd_ok _)) (q_k (rnd_ok _)) (by decide) (by decide)) (by decide)) (by decide)) (by decide) (by decide)) (by decide) (by decide))))) ⟨va_cnB 3 ht (g_C kc_VF_rounded) rfl rfl rfl (hmb.1 _ (List.mem_of_getElem? (i := 8) rfl)) (ht _ kI_VF) (by decide +kernel) ⟨Nat.le_of_ble_eq_true rfl, Nat.le_of_ble_eq_true rfl⟩, ht _ ks_VF_rounded, trivial⟩ (cPre_S hK hmb (hP.sub (ws' := []) [] rfl) (hD.sub (ws' := []) [] (by decide) rfl)) rfl rfl hl.1 rfl (lv_room (Nat.le_of_ble_eq_true rfl)) dCod_chooseCodes_80 ⟨Nat.le_of_ble_eq_true rfl, Nat.le_of_ble_eq_true rfl⟩) (fun r18 u19 H locs w20 hP hD hS => ?_)
  subst w20
  have hP : va_P D vwCl [(h0, .inr (1, [.ref v0, .ref p0, .int np, .ref k0])), (k0, .inl (cF, 5, .inr (.inr (.inl rr)))), (p0, .inr (3, [.int pl, .int pg, .ref p1, .ref p2, .ref p3])), (p1, .inl (cI, 5, .inl (upd kc 1 (cK1 rr)))), (p2, .inl (cF, 5, .inr (.inr (.inl (f_lev 1 ww (f_q (cK1 rr)))))))] H := hP
  have hD : va_D A [(h0, .inr (1, [.ref v0, .ref p0, .int np, .ref k0])), (k0, .inl (cF, 5, .inr (.inr (.inl rr)))), (p0, .inr (3, [.int pl, .int pg, .ref p1, .ref p2, .ref p3])), (p1, .inl (cI, 5, .inl (upd kc 1 (cK1 rr)))), (p2, .inl (cF, 5, .inr (.inr (.inl (f_lev 1 ww (f_q (cK1 rr)))))))] := hD
  refine W.eq (g2 := F0 m 83 ls [.int (cK2 ww rr), .int 2, .ref p0]) rfl ?_
  refine q_f (wc := [(p0, .inr (3, [.int pl, .int pg, .ref p1, .ref p2, .ref p3])), (p1, .inl (cI, 5, .inl (upd kc 1 (cK1 rr)))), (p2, .inl (cF, 5, .inr (.inr (.inl (f_lev 1 ww (f_q (cK1 rr)))))))]) (wr := [(h0, .inr (1, [.ref v0, .ref p0, .int np, .ref k0])), (k0, .inl (cF, 5, .inr (.inr (.inl rr))))]) [2, 3, 4] [0, 1] hK hP hD hS hA rfl rfl (by decide) (by decide) (va_runV (As := [.int 2, .int (cK2 ww rr)]) (rest := []) ⟨hx, hb, hml, hown, ht⟩ (c_Pac_takeCode_2 l D cF cI H.size p0 p1 p2 p3 pl pg (upd kc 1 (cK1 rr)) (f_lev 1 ww (f_q (cK1 rr))) (cK2 ww rr) (rnd_ok _) (lev_k (q_k (rnd_ok _)) b_0 (by decide) (by decide))) (cwV 2 ht (g_V km_Cod_83 ki_Pac_takeCode kv_Pac_takeCode kI_Pac kc_Pac_takeCode) rfl rfl rfl (by decide +kernel) ⟨Nat.le_of_ble_eq_true rfl, Nat.le_of_ble_eq_true rfl⟩) (cPre_V (ci := 3) (q0 := 0) hK hmb (hP.sub (ws' := [(p0, .inr (3, [.int pl, .int pg, .ref p1, .ref p2, .ref p3])), (p1, .inl (cI, 5, .inl (upd kc 1 (cK1 rr)))), (p2, .inl (cF, 5, .inr (.inr (.inl (f_lev 1 ww (f_q (cK1 rr)))))))]) [2, 3, 4] rfl) (hD.sub (ws' := [(p0, .inr (3, [.int pl, .int pg, .ref p1, .ref p2, .ref p3])), (p1, .inl (cI, 5, .inl (upd kc 1 (cK1 rr)))), (p2, .inl (cF, 5, .inr (.inr (.inl (f_lev 1 ww (f_q (cK1 rr)))))))]) [2, 3, 4] (by decide) rfl) rfl rfl) rfl rfl hl.1 rfl (lv_room (Nat.le_of_ble_eq_true rfl)) dCod_chooseCodes_83 ⟨Nat.le_of_ble_eq_true rfl, Nat.le_of_ble_eq_true rfl⟩) (fun r21 u22 H locs w23 hP hD hS => ?_)
  subst w23
  have hP : va_P D vwCl [(h0, .inr (1, [.ref v0, .ref p0, .int np, .ref k0])), (k0, .inl (cF, 5, .inr (.inr (.inl rr)))), (p0, .inr (3, [.int pl, .int pg, .ref p1, .ref p2, .ref p3])), (p1, .inl (cI, 5, .inl (upd (upd kc 1 (cK1 rr)) 2 (cK2 ww rr)))), (p2, .inl (cF, 5, .inr (.inr (.inl (f_lev 2 (f_lev 1 ww (f_q (cK1 rr))) (f_q (cK2 ww rr)))))))] H := hP
  have hD : va_D A [(h0, .inr (1, [.ref v0, .ref p0, .int np, .ref k0])), (k0, .inl (cF, 5, .inr (.inr (.inl rr)))), (p0, .inr (3, [.int pl, .int pg, .ref p1, .ref p2, .ref p3])), (p1, .inl (cI, 5, .inl (upd (upd kc 1 (cK1 rr)) 2 (cK2 ww rr)))), (p2, .inl (cF, 5, .inr (.inr (.inl (f_lev 2 (f_lev 1 ww (f_q (cK1 rr))) (f_q (cK2 ww rr)))))))] := hD
  refine lv_fstore (lv' := [(5, .float (f_q (cK2 ww rr))), (4, .float (f_quo (FP.fsub (rr 2) (FP.fmul ((f_lev 1 ww (f_q (cK1 rr))) 1) (rr 1))) (FP.fmul (rr 0) (FP.fsub FP.fconst1 (FP.fmul (f_q (cK1 rr)) (f_q (cK1 rr))))))), (3, .float (FP.fsub (rr 2) (FP.fmul ((f_lev 1 ww (f_q (cK1 rr))) 1) (rr 1)))), (2, .int 2), (1, .float (FP.fmul (rr 0) (FP.fsub FP.fconst1 (FP.fmul (f_q (cK1 rr)) (f_q (cK1 rr)))))), (0, .ref h0)]) hx hb dCod_chooseCodes_86 hl (by decide) rfl (fun ls hl => ?_)
  refine lv_fload_n hx hb dCod_chooseCodes_88 rfl (lv_at hl 4 rfl) ?_
  refine lv_fconst1 hx hb dCod_chooseCodes_89 ?_
  refine lv_fload hx hb dCod_chooseCodes_90 (lv_at hl 0 rfl) ?_
  refine lv_fload hx hb dCod_chooseCodes_92 (lv_at hl 0 rfl) ?_
  refine lv_fmul hx hb dCod_chooseCodes_94 (fk_n (fk_mul (q_k (rnd_ok _)) (q_k (rnd_ok _)) (by decide) (by decide)) (by decide)) ?_
  refine lv_fsub hx hb dCod_chooseCodes_95 (fk_n (fk_sub (K := 128) (fk_mono (show fk 128 FP.fconst1 by unfold fk; decide) (by decide)) (fk_mono (fk_mul (q_k (rnd_ok _)) (q_k (rnd_ok _)) (by decide) (by decide)) (by decide)) (by decide)) (by decide)) ?_
  refine lv_fmul hx hb dCod_chooseCodes_96 (fk_n (fk_mul (fk_mul (hrr _) (fk_sub (K := 128) (fk_mono (show fk 128 FP.fconst1 by unfold fk; decide) (by decide)) (fk_mono (fk_mul (q_k (rnd_ok _)) (q_k (rnd_ok _)) (by decide) (by decide)) (by decide)) (by decide)) (by decide) (by decide)) (fk_sub (K := 128) (fk_mono (show fk 128 FP.fconst1 by unfold fk; decide) (by decide)) (fk_mono (fk_mul (q_k (rnd_ok _)) (q_k (rnd_ok _)) (by decide) (by decide)) (by decide)) (by decide)) (by decide) (by decide)) (by decide)) ?_
  refine lv_fstore_n (lv' := [(1, .float (FP.fmul (FP.fmul (rr 0) (FP.fsub FP.fconst1 (FP.fmul (f_q (cK1 rr)) (f_q (cK1 rr))))) (FP.fsub FP.fconst1 (FP.fmul (f_q (cK2 ww rr)) (f_q (cK2 ww rr)))))), (5, .float (f_q (cK2 ww rr))), (4, .float (f_quo (FP.fsub (rr 2) (FP.fmul ((f_lev 1 ww (f_q (cK1 rr))) 1) (rr 1))) (FP.fmul (rr 0) (FP.fsub FP.fconst1 (FP.fmul (f_q (cK1 rr)) (f_q (cK1 rr))))))), (3, .float (FP.fsub (rr 2) (FP.fmul ((f_lev 1 ww (f_q (cK1 rr))) 1) (rr 1)))), (2, .int 2), (0, .ref h0)]) hx hb dCod_chooseCodes_97 rfl hl (by decide) rfl (fun ls hl => ?_)
  refine lv_iinc (v := 3) (lv' := [(2, .int 3), (1, .float (FP.fmul (FP.fmul (rr 0) (FP.fsub FP.fconst1 (FP.fmul (f_q (cK1 rr)) (f_q (cK1 rr))))) (FP.fsub FP.fconst1 (FP.fmul (f_q (cK2 ww rr)) (f_q (cK2 ww rr)))))), (5, .float (f_q (cK2 ww rr))), (4, .float (f_quo (FP.fsub (rr 2) (FP.fmul ((f_lev 1 ww (f_q (cK1 rr))) 1) (rr 1))) (FP.fmul (rr 0) (FP.fsub FP.fconst1 (FP.fmul (f_q (cK1 rr)) (f_q (cK1 rr))))))), (3, .float (FP.fsub (rr 2) (FP.fmul ((f_lev 1 ww (f_q (cK1 rr))) 1) (rr 1)))), (0, .ref h0)]) hx hb dCod_chooseCodes_98 hl (k := 4) rfl (by decide) (by decide) rfl (fun ls hl => ?_)
  refine lv_goto (tgt := 9) hx hb dCod_chooseCodes_101 (by decide) ?_
  refine lv_iload_n hx hb dCod_chooseCodes_9 rfl (lv_at hl 0 rfl) ?_
  refine lv_iconst (v := 4) hx hb dCod_chooseCodes_10 (by decide) ?_
  refine lv_icmp_gt (tgt := 104) hx hb dCod_chooseCodes_11 (by decide) (fun c9 => absurd c9 (by decide)) (fun _ => ?_)
  refine lv_aload_n hx hb dCod_chooseCodes_14 rfl (lv_at hl 5 rfl) ?_
  refine va_get (D := D) (ci := 1) (v := .ref k0) hx hb ht inCod hown hK hP 0 rfl rfl 3 (by decide) (ht _ kf_Cod_25) (fun _ h9 => h9) rfl dCod_chooseCodes_15 ?_
  refine lv_iload_n hx hb dCod_chooseCodes_18 rfl (lv_at hl 0 rfl) ?_
  refine k_fald (j := 3) hx hb hK hP 1 0 rfl rfl (by unfold vp_in; decide) rfl dCod_chooseCodes_19 ?_
  refine lv_fstore_n (lv' := [(3, .float (rr 3)), (2, .int 3), (1, .float (FP.fmul (FP.fmul (rr 0) (FP.fsub FP.fconst1 (FP.fmul (f_q (cK1 rr)) (f_q (cK1 rr))))) (FP.fsub FP.fconst1 (FP.fmul (f_q (cK2 ww rr)) (f_q (cK2 ww rr)))))), (5, .float (f_q (cK2 ww rr))), (4, .float (f_quo (FP.fsub (rr 2) (FP.fmul ((f_lev 1 ww (f_q (cK1 rr))) 1) (rr 1))) (FP.fmul (rr 0) (FP.fsub FP.fconst1 (FP.fmul (f_q (cK1 rr)) (f_q (cK1 rr))))))), (0, .ref h0)]) hx hb dCod_chooseCodes_20 rfl hl (by decide) rfl (fun ls hl => ?_)
  refine lv_iconst (v := 1) hx hb dCod_chooseCodes_21 (by decide) ?_
  refine lv_istore (lv' := [(4, .int 1), (3, .float (rr 3)), (2, .int 3), (1, .float (FP.fmul (FP.fmul (rr 0) (FP.fsub FP.fconst1 (FP.fmul (f_q (cK1 rr)) (f_q (cK1 rr))))) (FP.fsub FP.fconst1 (FP.fmul (f_q (cK2 ww rr)) (f_q (cK2 ww rr)))))), (5, .float (f_q (cK2 ww rr))), (0, .ref h0)]) hx hb dCod_chooseCodes_22 hl (by decide) rfl (fun ls hl => ?_)
  refine lv_iload hx hb dCod_chooseCodes_24 (lv_at hl 0 rfl) ?_
  refine lv_iload_n hx hb dCod_chooseCodes_26 rfl (lv_at hl 2 rfl) ?_
  refine lv_icmp_ge (tgt := 59) hx hb dCod_chooseCodes_27 (by decide) (fun c9 => absurd c9 (by decide)) (fun _ => ?_)
  refine lv_fload_n hx hb dCod_chooseCodes_30 rfl (lv_at hl 1 rfl) ?_
  refine lv_aload_n hx hb dCod_chooseCodes_31 rfl (lv_at hl 5 rfl) ?_
  refine va_get (D := D) (ci := 1) (v := .ref p0) hx hb ht inCod hown hK hP 0 rfl rfl 1 (by decide) (ht _ kf_Cod_21) (fun _ h9 => h9) rfl dCod_chooseCodes_32 ?_
  refine va_get (D := D) (ci := 3) (v := .ref p2) hx hb ht inPac hown hK hP 2 rfl rfl 3 (by decide) (ht _ kf_Cod_71) (fun _ h9 => h9) rfl dCod_chooseCodes_35 ?_
  refine lv_iload hx hb dCod_chooseCodes_38 (lv_at hl 0 rfl) ?_
  refine k_fald (j := 1) hx hb hK hP 4 0 rfl rfl (by unfold vp_in; decide) rfl dCod_chooseCodes_40 ?_
  refine lv_aload_n hx hb dCod_chooseCodes_41 rfl (lv_at hl 5 rfl) ?_
  refine va_get (D := D) (ci := 1) (v := .ref k0) hx hb ht inCod hown hK hP 0 rfl rfl 3 (by decide) (ht _ kf_Cod_25) (fun _ h9 => h9) rfl dCod_chooseCodes_42 ?_
  refine lv_iload_n hx hb dCod_chooseCodes_45 rfl (lv_at hl 2 rfl) ?_
  refine lv_iload hx hb dCod_chooseCodes_46 (lv_at hl 0 rfl) ?_
  refine k_isub (v := 2) hx hb dCod_chooseCodes_48 (by decide) ?_
  refine k_fald (j := 2) hx hb hK hP 1 0 rfl rfl (by unfold vp_in; decide) rfl dCod_chooseCodes_49 ?_
  refine lv_fmul hx hb dCod_chooseCodes_50 (fk_n (fk_mul ((lev_k (q_k (rnd_ok _)) (lev_k (q_k (rnd_ok _)) b_0 (by decide) (by decide)) (by decide) (by decide)) 1 (by decide) (by decide)) (hrr _) (by decide) (by decide)) (by decide)) ?_
  refine lv_fsub hx hb dCod_chooseCodes_51 (fk_n (fk_sub (K := 196) (fk_mono (hrr _) (by decide)) (fk_mono (fk_mul ((lev_k (q_k (rnd_ok _)) (lev_k (q_k (rnd_ok _)) b_0 (by decide) (by decide)) (by decide) (by decide)) 1 (by decide) (by decide)) (hrr _) (by decide) (by decide)) (by decide)) (by decide)) (by decide)) ?_
  refine lv_fstore_n (lv' := [(3, .float (FP.fsub (rr 3) (FP.fmul ((f_lev 2 (f_lev 1 ww (f_q (cK1 rr))) (f_q (cK2 ww rr))) 1) (rr 2)))), (4, .int 1), (2, .int 3), (1, .float (FP.fmul (FP.fmul (rr 0) (FP.fsub FP.fconst1 (FP.fmul (f_q (cK1 rr)) (f_q (cK1 rr))))) (FP.fsub FP.fconst1 (FP.fmul (f_q (cK2 ww rr)) (f_q (cK2 ww rr)))))), (5, .float (f_q (cK2 ww rr))), (0, .ref h0)]) hx hb dCod_chooseCodes_52 rfl hl (by decide) rfl (fun ls hl => ?_)
  refine lv_iinc (v := 2) (lv' := [(4, .int 2), (3, .float (FP.fsub (rr 3) (FP.fmul ((f_lev 2 (f_lev 1 ww (f_q (cK1 rr))) (f_q (cK2 ww rr))) 1) (rr 2)))), (2, .int 3), (1, .float (FP.fmul (FP.fmul (rr 0) (FP.fsub FP.fconst1 (FP.fmul (f_q (cK1 rr)) (f_q (cK1 rr))))) (FP.fsub FP.fconst1 (FP.fmul (f_q (cK2 ww rr)) (f_q (cK2 ww rr)))))), (5, .float (f_q (cK2 ww rr))), (0, .ref h0)]) hx hb dCod_chooseCodes_53 hl (k := 1) rfl (by decide) (by decide) rfl (fun ls hl => ?_)
  refine lv_goto (tgt := 24) hx hb dCod_chooseCodes_56 (by decide) ?_
  refine lv_iload hx hb dCod_chooseCodes_24 (lv_at hl 0 rfl) ?_
  refine lv_iload_n hx hb dCod_chooseCodes_26 rfl (lv_at hl 2 rfl) ?_
  refine lv_icmp_ge (tgt := 59) hx hb dCod_chooseCodes_27 (by decide) (fun c9 => absurd c9 (by decide)) (fun _ => ?_)
  refine lv_fload_n hx hb dCod_chooseCodes_30 rfl (lv_at hl 1 rfl) ?_
  refine lv_aload_n hx hb dCod_chooseCodes_31 rfl (lv_at hl 5 rfl) ?_
  refine va_get (D := D) (ci := 1) (v := .ref p0) hx hb ht inCod hown hK hP 0 rfl rfl 1 (by decide) (ht _ kf_Cod_21) (fun _ h9 => h9) rfl dCod_chooseCodes_32 ?_
  refine va_get (D := D) (ci := 3) (v := .ref p2) hx hb ht inPac hown hK hP 2 rfl rfl 3 (by decide) (ht _ kf_Cod_71) (fun _ h9 => h9) rfl dCod_chooseCodes_35 ?_
  refine lv_iload hx hb dCod_chooseCodes_38 (lv_at hl 0 rfl) ?_
  refine k_fald (j := 2) hx hb hK hP 4 0 rfl rfl (by unfold vp_in; decide) rfl dCod_chooseCodes_40 ?_
  refine lv_aload_n hx hb dCod_chooseCodes_41 rfl (lv_at hl 5 rfl) ?_
  refine va_get (D := D) (ci := 1) (v := .ref k0) hx hb ht inCod hown hK hP 0 rfl rfl 3 (by decide) (ht _ kf_Cod_25) (fun _ h9 => h9) rfl dCod_chooseCodes_42 ?_
  refine lv_iload_n hx hb dCod_chooseCodes_45 rfl (lv_at hl 2 rfl) ?_
  refine lv_iload hx hb dCod_chooseCodes_46 (lv_at hl 0 rfl) ?_
  refine k_isub (v := 1) hx hb dCod_chooseCodes_48 (by decide) ?_
  refine k_fald (j := 1) hx hb hK hP 1 0 rfl rfl (by unfold vp_in; decide) rfl dCod_chooseCodes_49 ?_
  refine lv_fmul hx hb dCod_chooseCodes_50 (fk_n (fk_mul ((lev_k (q_k (rnd_ok _)) (lev_k (q_k (rnd_ok _)) b_0 (by decide) (by decide)) (by decide) (by decide)) 2 (by decide) (by decide)) (hrr _) (by decide) (by decide)) (by decide)) ?_
  refine lv_fsub hx hb dCod_chooseCodes_51 (fk_n (fk_sub (K := 198) (fk_mono (fk_sub (K := 196) (fk_mono (hrr _) (by decide)) (fk_mono (fk_mul ((lev_k (q_k (rnd_ok _)) (lev_k (q_k (rnd_ok _)) b_0 (by decide) (by decide)) (by decide) (by decide)) 1 (by decide) (by decide)) (hrr _) (by decide) (by decide)) (by decide)) (by decide)) (by decide)) (fk_mono (fk_mul ((lev_k (q_k (rnd_ok _)) (lev_k (q_k (rnd_ok _)) b_0 (by decide) (by decide)) (by decide) (by decide)) 2 (by decide) (by decide)) (hrr _) (by decide) (by decide)) (by decide)) (by decide)) (by decide)) ?_
  refine lv_fstore_n (lv' := [(3, .float (FP.fsub (FP.fsub (rr 3) (FP.fmul ((f_lev 2 (f_lev 1 ww (f_q (cK1 rr))) (f_q (cK2 ww rr))) 1) (rr 2))) (FP.fmul ((f_lev 2 (f_lev 1 ww (f_q (cK1 rr))) (f_q (cK2 ww rr))) 2) (rr 1)))), (4, .int 2), (2, .int 3), (1, .float (FP.fmul (FP.fmul (rr 0) (FP.fsub FP.fconst1 (FP.fmul (f_q (cK1 rr)) (f_q (cK1 rr))))) (FP.fsub FP.fconst1 (FP.fmul (f_q (cK2 ww rr)) (f_q (cK2 ww rr)))))), (5, .float (f_q (cK2 ww rr))), (0, .ref h0)]) hx hb dCod_chooseCodes_52 rfl hl (by decide) rfl (fun ls hl => ?_)
  refine lv_iinc (v := 3) (lv' := [(4, .int 3), (3, .float (FP.fsub (FP.fsub (rr 3) (FP.fmul ((f_lev 2 (f_lev 1 ww (f_q (cK1 rr))) (f_q (cK2 ww rr))) 1) (rr 2))) (FP.fmul ((f_lev 2 (f_lev 1 ww (f_q (cK1 rr))) (f_q (cK2 ww rr))) 2) (rr 1)))), (2, .int 3), (1, .float (FP.fmul (FP.fmul (rr 0) (FP.fsub FP.fconst1 (FP.fmul (f_q (cK1 rr)) (f_q (cK1 rr))))) (FP.fsub FP.fconst1 (FP.fmul (f_q (cK2 ww rr)) (f_q (cK2 ww rr)))))), (5, .float (f_q (cK2 ww rr))), (0, .ref h0)]) hx hb dCod_chooseCodes_53 hl (k := 1) rfl (by decide) (by decide) rfl (fun ls hl => ?_)
  refine lv_goto (tgt := 24) hx hb dCod_chooseCodes_56 (by decide) ?_
  refine lv_iload hx hb dCod_chooseCodes_24 (lv_at hl 0 rfl) ?_
  refine lv_iload_n hx hb dCod_chooseCodes_26 rfl (lv_at hl 2 rfl) ?_
  refine lv_icmp_ge (tgt := 59) hx hb dCod_chooseCodes_27 (by decide) (fun _ => ?_) (fun c9 => absurd (by decide) c9)
  refine lv_fload_n hx hb dCod_chooseCodes_59 rfl (lv_at hl 1 rfl) ?_
  refine lv_fload_n hx hb dCod_chooseCodes_60 rfl (lv_at hl 3 rfl) ?_
  refine q_f (wc := []) (wr := [(h0, .inr (1, [.ref v0, .ref p0, .int np, .ref k0])), (k0, .inl (cF, 5, .inr (.inr (.inl rr)))), (p0, .inr (3, [.int pl, .int pg, .ref p1, .ref p2, .ref p3])), (p1, .inl (cI, 5, .inl (upd (upd kc 1 (cK1 rr)) 2 (cK2 ww rr)))), (p2, .inl (cF, 5, .inr (.inr (.inl (f_lev 2 (f_lev 1 ww (f_q (cK1 rr))) (f_q (cK2 ww rr)))))))]) [] [0, 1, 2, 3, 4] hK hP hD hS hA rfl rfl (by decide) (by decide) (va_runSN (As := [.float (FP.fsub (FP.fsub (rr 3) (FP.fmul ((f_lev 2 (f_lev 1 ww (f_q (cK1 rr))) (f_q (cK2 ww rr))) 1) (rr 2))) (FP.fmul ((f_lev 2 (f_lev 1 ww (f_q (cK1 rr))) (f_q (cK2 ww rr))) 2) (rr 1))), .float (FP.fmul (FP.fmul (rr 0) (FP.fsub FP.fconst1 (FP.fmul (f_q (cK1 rr)) (f_q (cK1 rr))))) (FP.fsub FP.fconst1 (FP.fmul (f_q (cK2 ww rr)) (f_q (cK2 ww rr)))))]) (rest := []) ⟨hx, hb, hml, hown, ht⟩ (c_VF_quotient l D cF cI H.size (FP.fsub (FP.fsub (rr 3) (FP.fmul ((f_lev 2 (f_lev 1 ww (f_q (cK1 rr))) (f_q (cK2 ww rr))) 1) (rr 2))) (FP.fmul ((f_lev 2 (f_lev 1 ww (f_q (cK1 rr))) (f_q (cK2 ww rr))) 2) (rr 1))) (FP.fmul (FP.fmul (rr 0) (FP.fsub FP.fconst1 (FP.fmul (f_q (cK1 rr)) (f_q (cK1 rr))))) (FP.fsub FP.fconst1 (FP.fmul (f_q (cK2 ww rr)) (f_q (cK2 ww rr))))) (n_quo (fk_sub (K := 198) (fk_mono (fk_sub (K := 196) (fk_mono (hrr _) (by decide)) (fk_mono (fk_mul ((lev_k (q_k (rnd_ok _)) (lev_k (q_k (rnd_ok _)) b_0 (by decide) (by decide)) (by decide) (by decide)) 1 (by decide) (by decide)) (hrr _) (by decide) (by decide)) (by decide)) (by decide)) (by decide)) (fk_mono (fk_mul ((lev_k (q_k (rnd_ok _)) (lev_k (q_k (rnd_ok _)) b_0 (by decide) (by decide)) (by decide) (by decide)) 2 (by decide) (by decide)) (hrr _) (by decide) (by decide)) (by decide)) (by decide)) (fk_mul (fk_mul (hrr _) (fk_sub (K := 128) (fk_mono (show fk 128 FP.fconst1 by unfold fk; decide) (by decide)) (fk_mono (fk_mul (q_k (rnd_ok _)) (q_k (rnd_ok _)) (by decide) (by decide)) (by decide)) (by decide)) (by decide) (by decide)) (fk_sub (K := 128) (fk_mono (show fk 128 FP.fconst1 by unfold fk; decide) (by decide)) (fk_mono (fk_mul (q_k (rnd_ok _)) (q_k (rnd_ok _)) (by decide) (by decide)) (by decide)) (by decide)) (by decide) (by decide)) (by decide) (by decide))) ⟨va_cnB 2 ht (g_C kc_VF_quotient) rfl rfl rfl (hmb.1 _ (List.mem_of_getElem? (i := 7) rfl)) (ht _ kI_VF) (by decide +kernel) ⟨Nat.le_of_ble_eq_true rfl, Nat.le_of_ble_eq_true rfl⟩, ht _ ks_VF_quotient, trivial⟩ (cPre_S hK hmb (hP.sub (ws' := []) [] rfl) (hD.sub (ws' := []) [] (by decide) rfl)) rfl rfl hl.1 rfl (lv_room (Nat.le_of_ble_eq_true rfl)) dCod_chooseCodes_61 ⟨Nat.le_of_ble_eq_true rfl, Nat.le_of_ble_eq_true rfl⟩) (fun r28 u29 H locs w30 hP hD hS => ?_)
  subst w30
  have hP : va_P D vwCl [(h0, .inr (1, [.ref v0, .ref p0, .int np, .ref k0])), (k0, .inl (cF, 5, .inr (.inr (.inl rr)))), (p0, .inr (3, [.int pl, .int pg, .ref p1, .ref p2, .ref p3])), (p1, .inl (cI, 5, .inl (upd (upd kc 1 (cK1 rr)) 2 (cK2 ww rr)))), (p2, .inl (cF, 5, .inr (.inr (.inl (f_lev 2 (f_lev 1 ww (f_q (cK1 rr))) (f_q (cK2 ww rr)))))))] H := hP
  have hD : va_D A [(h0, .inr (1, [.ref v0, .ref p0, .int np, .ref k0])), (k0, .inl (cF, 5, .inr (.inr (.inl rr)))), (p0, .inr (3, [.int pl, .int pg, .ref p1, .ref p2, .ref p3])), (p1, .inl (cI, 5, .inl (upd (upd kc 1 (cK1 rr)) 2 (cK2 ww rr)))), (p2, .inl (cF, 5, .inr (.inr (.inl (f_lev 2 (f_lev 1 ww (f_q (cK1 rr))) (f_q (cK2 ww rr)))))))] := hD
  refine lv_fstore (lv' := [(4, .float (f_quo (FP.fsub (FP.fsub (rr 3) (FP.fmul ((f_lev 2 (f_lev 1 ww (f_q (cK1 rr))) (f_q (cK2 ww rr))) 1) (rr 2))) (FP.fmul ((f_lev 2 (f_lev 1 ww (f_q (cK1 rr))) (f_q (cK2 ww rr))) 2) (rr 1))) (FP.fmul (FP.fmul (rr 0) (FP.fsub FP.fconst1 (FP.fmul (f_q (cK1 rr)) (f_q (cK1 rr))))) (FP.fsub FP.fconst1 (FP.fmul (f_q (cK2 ww rr)) (f_q (cK2 ww rr))))))), (3, .float (FP.fsub (FP.fsub (rr 3) (FP.fmul ((f_lev 2 (f_lev 1 ww (f_q (cK1 rr))) (f_q (cK2 ww rr))) 1) (rr 2))) (FP.fmul ((f_lev 2 (f_lev 1 ww (f_q (cK1 rr))) (f_q (cK2 ww rr))) 2) (rr 1)))), (2, .int 3), (1, .float (FP.fmul (FP.fmul (rr 0) (FP.fsub FP.fconst1 (FP.fmul (f_q (cK1 rr)) (f_q (cK1 rr))))) (FP.fsub FP.fconst1 (FP.fmul (f_q (cK2 ww rr)) (f_q (cK2 ww rr)))))), (5, .float (f_q (cK2 ww rr))), (0, .ref h0)]) hx hb dCod_chooseCodes_64 hl (by decide) rfl (fun ls hl => ?_)
  refine lv_aload_n hx hb dCod_chooseCodes_66 rfl (lv_at hl 5 rfl) ?_
  refine va_get (D := D) (ci := 1) (v := .ref p0) hx hb ht inCod hown hK hP 0 rfl rfl 1 (by decide) (ht _ kf_Cod_21) (fun _ h9 => h9) rfl dCod_chooseCodes_67 ?_
  refine lv_iload_n hx hb dCod_chooseCodes_70 rfl (lv_at hl 2 rfl) ?_
  refine lv_fload hx hb dCod_chooseCodes_71 (lv_at hl 0 rfl) ?_
  refine lv_ldcf (v := 1098907648) hx hb hown (ht _ kk_Cod_78) dCod_chooseCodes_73 ?_
  refine lv_fmul hx hb dCod_chooseCodes_75 (n_16 (n_fq (fk_sub (K := 198) (fk_mono (fk_sub (K := 196) (fk_mono (hrr _) (by decide)) (fk_mono (fk_mul ((lev_k (q_k (rnd_ok _)) (lev_k (q_k (rnd_ok _)) b_0 (by decide) (by decide)) (by decide) (by decide)) 1 (by decide) (by decide)) (hrr _) (by decide) (by decide)) (by decide)) (by decide)) (by decide)) (fk_mono (fk_mul ((lev_k (q_k (rnd_ok _)) (lev_k (q_k (rnd_ok _)) b_0 (by decide) (by decide)) (by decide) (by decide)) 2 (by decide) (by decide)) (hrr _) (by decide) (by decide)) (by decide)) (by decide)) (fk_mul (fk_mul (hrr _) (fk_sub (K := 128) (fk_mono (show fk 128 FP.fconst1 by unfold fk; decide) (by decide)) (fk_mono (fk_mul (q_k (rnd_ok _)) (q_k (rnd_ok _)) (by decide) (by decide)) (by decide)) (by decide)) (by decide) (by decide)) (fk_sub (K := 128) (fk_mono (show fk 128 FP.fconst1 by unfold fk; decide) (by decide)) (fk_mono (fk_mul (q_k (rnd_ok _)) (q_k (rnd_ok _)) (by decide) (by decide)) (by decide)) (by decide)) (by decide) (by decide)) (by decide) (by decide))) ?_
  refine lv_bipush (v := (-15)) hx hb dCod_chooseCodes_76 (by decide) ?_
  refine lv_bipush (v := 15) hx hb dCod_chooseCodes_78 (by decide) ?_
  refine q_i (wc := []) (wr := [(h0, .inr (1, [.ref v0, .ref p0, .int np, .ref k0])), (k0, .inl (cF, 5, .inr (.inr (.inl rr)))), (p0, .inr (3, [.int pl, .int pg, .ref p1, .ref p2, .ref p3])), (p1, .inl (cI, 5, .inl (upd (upd kc 1 (cK1 rr)) 2 (cK2 ww rr)))), (p2, .inl (cF, 5, .inr (.inr (.inl (f_lev 2 (f_lev 1 ww (f_q (cK1 rr))) (f_q (cK2 ww rr)))))))]) [] [0, 1, 2, 3, 4] hK hP hD hS hA rfl rfl (by decide) (by decide) (va_runSN (As := [.float (FP.fmul (f_quo (FP.fsub (FP.fsub (rr 3) (FP.fmul ((f_lev 2 (f_lev 1 ww (f_q (cK1 rr))) (f_q (cK2 ww rr))) 1) (rr 2))) (FP.fmul ((f_lev 2 (f_lev 1 ww (f_q (cK1 rr))) (f_q (cK2 ww rr))) 2) (rr 1))) (FP.fmul (FP.fmul (rr 0) (FP.fsub FP.fconst1 (FP.fmul (f_q (cK1 rr)) (f_q (cK1 rr))))) (FP.fsub FP.fconst1 (FP.fmul (f_q (cK2 ww rr)) (f_q (cK2 ww rr)))))) 1098907648), .int (-15), .int 15]) (rest := [.int 3, .ref p0]) ⟨hx, hb, hml, hown, ht⟩ (c_VF_rounded l D cF cI H.size (FP.fmul (f_quo (FP.fsub (FP.fsub (rr 3) (FP.fmul ((f_lev 2 (f_lev 1 ww (f_q (cK1 rr))) (f_q (cK2 ww rr))) 1) (rr 2))) (FP.fmul ((f_lev 2 (f_lev 1 ww (f_q (cK1 rr))) (f_q (cK2 ww rr))) 2) (rr 1))) (FP.fmul (FP.fmul (rr 0) (FP.fsub FP.fconst1 (FP.fmul (f_q (cK1 rr)) (f_q (cK1 rr))))) (FP.fsub FP.fconst1 (FP.fmul (f_q (cK2 ww rr)) (f_q (cK2 ww rr)))))) 1098907648) (-15) 15 (n_r1 (n_16 (n_fq (fk_sub (K := 198) (fk_mono (fk_sub (K := 196) (fk_mono (hrr _) (by decide)) (fk_mono (fk_mul ((lev_k (q_k (rnd_ok _)) (lev_k (q_k (rnd_ok _)) b_0 (by decide) (by decide)) (by decide) (by decide)) 1 (by decide) (by decide)) (hrr _) (by decide) (by decide)) (by decide)) (by decide)) (by decide)) (fk_mono (fk_mul ((lev_k (q_k (rnd_ok _)) (lev_k (q_k (rnd_ok _)) b_0 (by decide) (by decide)) (by decide) (by decide)) 2 (by decide) (by decide)) (hrr _) (by decide) (by decide)) (by decide)) (by decide)) (fk_mul (fk_mul (hrr _) (fk_sub (K := 128) (fk_mono (show fk 128 FP.fconst1 by unfold fk; decide) (by decide)) (fk_mono (fk_mul (q_k (rnd_ok _)) (q_k (rnd_ok _)) (by decide) (by decide)) (by decide)) (by decide)) (by decide) (by decide)) (fk_sub (K := 128) (fk_mono (show fk 128 FP.fconst1 by unfold fk; decide) (by decide)) (fk_mono (fk_mul (q_k (rnd_ok _)) (q_k (rnd_ok _)) (by decide) (by decide)) (by decide)) (by decide)) (by decide) (by decide)) (by decide) (by decide)))) (n_r2 (n_16 (n_fq (fk_sub (K := 198) (fk_mono (fk_sub (K := 196) (fk_mono (hrr _) (by decide)) (fk_mono (fk_mul ((lev_k (q_k (rnd_ok _)) (lev_k (q_k (rnd_ok _)) b_0 (by decide) (by decide)) (by decide) (by decide)) 1 (by decide) (by decide)) (hrr _) (by decide) (by decide)) (by decide)) (by decide)) (by decide)) (fk_mono (fk_mul ((lev_k (q_k (rnd_ok _)) (lev_k (q_k (rnd_ok _)) b_0 (by decide) (by decide)) (by decide) (by decide)) 2 (by decide) (by decide)) (hrr _) (by decide) (by decide)) (by decide)) (by decide)) (fk_mul (fk_mul (hrr _) (fk_sub (K := 128) (fk_mono (show fk 128 FP.fconst1 by unfold fk; decide) (by decide)) (fk_mono (fk_mul (q_k (rnd_ok _)) (q_k (rnd_ok _)) (by decide) (by decide)) (by decide)) (by decide)) (by decide) (by decide)) (fk_sub (K := 128) (fk_mono (show fk 128 FP.fconst1 by unfold fk; decide) (by decide)) (fk_mono (fk_mul (q_k (rnd_ok _)) (q_k (rnd_ok _)) (by decide) (by decide)) (by decide)) (by decide)) (by decide) (by decide)) (by decide) (by decide))))) ⟨va_cnB 3 ht (g_C kc_VF_rounded) rfl rfl rfl (hmb.1 _ (List.mem_of_getElem? (i := 8) rfl)) (ht _ kI_VF) (by decide +kernel) ⟨Nat.le_of_ble_eq_true rfl, Nat.le_of_ble_eq_true rfl⟩, ht _ ks_VF_rounded, trivial⟩ (cPre_S hK hmb (hP.sub (ws' := []) [] rfl) (hD.sub (ws' := []) [] (by decide) rfl)) rfl rfl hl.1 rfl (lv_room (Nat.le_of_ble_eq_true rfl)) dCod_chooseCodes_80 ⟨Nat.le_of_ble_eq_true rfl, Nat.le_of_ble_eq_true rfl⟩) (fun r31 u32 H locs w33 hP hD hS => ?_)
  subst w33
  have hP : va_P D vwCl [(h0, .inr (1, [.ref v0, .ref p0, .int np, .ref k0])), (k0, .inl (cF, 5, .inr (.inr (.inl rr)))), (p0, .inr (3, [.int pl, .int pg, .ref p1, .ref p2, .ref p3])), (p1, .inl (cI, 5, .inl (upd (upd kc 1 (cK1 rr)) 2 (cK2 ww rr)))), (p2, .inl (cF, 5, .inr (.inr (.inl (f_lev 2 (f_lev 1 ww (f_q (cK1 rr))) (f_q (cK2 ww rr)))))))] H := hP
  have hD : va_D A [(h0, .inr (1, [.ref v0, .ref p0, .int np, .ref k0])), (k0, .inl (cF, 5, .inr (.inr (.inl rr)))), (p0, .inr (3, [.int pl, .int pg, .ref p1, .ref p2, .ref p3])), (p1, .inl (cI, 5, .inl (upd (upd kc 1 (cK1 rr)) 2 (cK2 ww rr)))), (p2, .inl (cF, 5, .inr (.inr (.inl (f_lev 2 (f_lev 1 ww (f_q (cK1 rr))) (f_q (cK2 ww rr)))))))] := hD
  refine W.eq (g2 := F0 m 83 ls [.int (cK3 ww rr), .int 3, .ref p0]) rfl ?_
  refine q_f (wc := [(p0, .inr (3, [.int pl, .int pg, .ref p1, .ref p2, .ref p3])), (p1, .inl (cI, 5, .inl (upd (upd kc 1 (cK1 rr)) 2 (cK2 ww rr)))), (p2, .inl (cF, 5, .inr (.inr (.inl (f_lev 2 (f_lev 1 ww (f_q (cK1 rr))) (f_q (cK2 ww rr)))))))]) (wr := [(h0, .inr (1, [.ref v0, .ref p0, .int np, .ref k0])), (k0, .inl (cF, 5, .inr (.inr (.inl rr))))]) [2, 3, 4] [0, 1] hK hP hD hS hA rfl rfl (by decide) (by decide) (va_runV (As := [.int 3, .int (cK3 ww rr)]) (rest := []) ⟨hx, hb, hml, hown, ht⟩ (c_Pac_takeCode_3 l D cF cI H.size p0 p1 p2 p3 pl pg (upd (upd kc 1 (cK1 rr)) 2 (cK2 ww rr)) (f_lev 2 (f_lev 1 ww (f_q (cK1 rr))) (f_q (cK2 ww rr))) (cK3 ww rr) (rnd_ok _) (lev_k (q_k (rnd_ok _)) (lev_k (q_k (rnd_ok _)) b_0 (by decide) (by decide)) (by decide) (by decide))) (cwV 2 ht (g_V km_Cod_83 ki_Pac_takeCode kv_Pac_takeCode kI_Pac kc_Pac_takeCode) rfl rfl rfl (by decide +kernel) ⟨Nat.le_of_ble_eq_true rfl, Nat.le_of_ble_eq_true rfl⟩) (cPre_V (ci := 3) (q0 := 0) hK hmb (hP.sub (ws' := [(p0, .inr (3, [.int pl, .int pg, .ref p1, .ref p2, .ref p3])), (p1, .inl (cI, 5, .inl (upd (upd kc 1 (cK1 rr)) 2 (cK2 ww rr)))), (p2, .inl (cF, 5, .inr (.inr (.inl (f_lev 2 (f_lev 1 ww (f_q (cK1 rr))) (f_q (cK2 ww rr)))))))]) [2, 3, 4] rfl) (hD.sub (ws' := [(p0, .inr (3, [.int pl, .int pg, .ref p1, .ref p2, .ref p3])), (p1, .inl (cI, 5, .inl (upd (upd kc 1 (cK1 rr)) 2 (cK2 ww rr)))), (p2, .inl (cF, 5, .inr (.inr (.inl (f_lev 2 (f_lev 1 ww (f_q (cK1 rr))) (f_q (cK2 ww rr)))))))]) [2, 3, 4] (by decide) rfl) rfl rfl) rfl rfl hl.1 rfl (lv_room (Nat.le_of_ble_eq_true rfl)) dCod_chooseCodes_83 ⟨Nat.le_of_ble_eq_true rfl, Nat.le_of_ble_eq_true rfl⟩) (fun r34 u35 H locs w36 hP hD hS => ?_)
  subst w36
  have hP : va_P D vwCl [(h0, .inr (1, [.ref v0, .ref p0, .int np, .ref k0])), (k0, .inl (cF, 5, .inr (.inr (.inl rr)))), (p0, .inr (3, [.int pl, .int pg, .ref p1, .ref p2, .ref p3])), (p1, .inl (cI, 5, .inl (upd (upd (upd kc 1 (cK1 rr)) 2 (cK2 ww rr)) 3 (cK3 ww rr)))), (p2, .inl (cF, 5, .inr (.inr (.inl (f_lev 3 (f_lev 2 (f_lev 1 ww (f_q (cK1 rr))) (f_q (cK2 ww rr))) (f_q (cK3 ww rr)))))))] H := hP
  have hD : va_D A [(h0, .inr (1, [.ref v0, .ref p0, .int np, .ref k0])), (k0, .inl (cF, 5, .inr (.inr (.inl rr)))), (p0, .inr (3, [.int pl, .int pg, .ref p1, .ref p2, .ref p3])), (p1, .inl (cI, 5, .inl (upd (upd (upd kc 1 (cK1 rr)) 2 (cK2 ww rr)) 3 (cK3 ww rr)))), (p2, .inl (cF, 5, .inr (.inr (.inl (f_lev 3 (f_lev 2 (f_lev 1 ww (f_q (cK1 rr))) (f_q (cK2 ww rr))) (f_q (cK3 ww rr)))))))] := hD
  refine lv_fstore (lv' := [(5, .float (f_q (cK3 ww rr))), (4, .float (f_quo (FP.fsub (FP.fsub (rr 3) (FP.fmul ((f_lev 2 (f_lev 1 ww (f_q (cK1 rr))) (f_q (cK2 ww rr))) 1) (rr 2))) (FP.fmul ((f_lev 2 (f_lev 1 ww (f_q (cK1 rr))) (f_q (cK2 ww rr))) 2) (rr 1))) (FP.fmul (FP.fmul (rr 0) (FP.fsub FP.fconst1 (FP.fmul (f_q (cK1 rr)) (f_q (cK1 rr))))) (FP.fsub FP.fconst1 (FP.fmul (f_q (cK2 ww rr)) (f_q (cK2 ww rr))))))), (3, .float (FP.fsub (FP.fsub (rr 3) (FP.fmul ((f_lev 2 (f_lev 1 ww (f_q (cK1 rr))) (f_q (cK2 ww rr))) 1) (rr 2))) (FP.fmul ((f_lev 2 (f_lev 1 ww (f_q (cK1 rr))) (f_q (cK2 ww rr))) 2) (rr 1)))), (2, .int 3), (1, .float (FP.fmul (FP.fmul (rr 0) (FP.fsub FP.fconst1 (FP.fmul (f_q (cK1 rr)) (f_q (cK1 rr))))) (FP.fsub FP.fconst1 (FP.fmul (f_q (cK2 ww rr)) (f_q (cK2 ww rr)))))), (0, .ref h0)]) hx hb dCod_chooseCodes_86 hl (by decide) rfl (fun ls hl => ?_)
  refine lv_fload_n hx hb dCod_chooseCodes_88 rfl (lv_at hl 4 rfl) ?_
  refine lv_fconst1 hx hb dCod_chooseCodes_89 ?_
  refine lv_fload hx hb dCod_chooseCodes_90 (lv_at hl 0 rfl) ?_
  refine lv_fload hx hb dCod_chooseCodes_92 (lv_at hl 0 rfl) ?_
  refine lv_fmul hx hb dCod_chooseCodes_94 (fk_n (fk_mul (q_k (rnd_ok _)) (q_k (rnd_ok _)) (by decide) (by decide)) (by decide)) ?_
  refine lv_fsub hx hb dCod_chooseCodes_95 (fk_n (fk_sub (K := 128) (fk_mono (show fk 128 FP.fconst1 by unfold fk; decide) (by decide)) (fk_mono (fk_mul (q_k (rnd_ok _)) (q_k (rnd_ok _)) (by decide) (by decide)) (by decide)) (by decide)) (by decide)) ?_
  refine lv_fmul hx hb dCod_chooseCodes_96 (fk_n (fk_mul (fk_mul (fk_mul (hrr _) (fk_sub (K := 128) (fk_mono (show fk 128 FP.fconst1 by unfold fk; decide) (by decide)) (fk_mono (fk_mul (q_k (rnd_ok _)) (q_k (rnd_ok _)) (by decide) (by decide)) (by decide)) (by decide)) (by decide) (by decide)) (fk_sub (K := 128) (fk_mono (show fk 128 FP.fconst1 by unfold fk; decide) (by decide)) (fk_mono (fk_mul (q_k (rnd_ok _)) (q_k (rnd_ok _)) (by decide) (by decide)) (by decide)) (by decide)) (by decide) (by decide)) (fk_sub (K := 128) (fk_mono (show fk 128 FP.fconst1 by unfold fk; decide) (by decide)) (fk_mono (fk_mul (q_k (rnd_ok _)) (q_k (rnd_ok _)) (by decide) (by decide)) (by decide)) (by decide)) (by decide) (by decide)) (by decide)) ?_
  refine lv_fstore_n (lv' := [(1, .float (FP.fmul (FP.fmul (FP.fmul (rr 0) (FP.fsub FP.fconst1 (FP.fmul (f_q (cK1 rr)) (f_q (cK1 rr))))) (FP.fsub FP.fconst1 (FP.fmul (f_q (cK2 ww rr)) (f_q (cK2 ww rr))))) (FP.fsub FP.fconst1 (FP.fmul (f_q (cK3 ww rr)) (f_q (cK3 ww rr)))))), (5, .float (f_q (cK3 ww rr))), (4, .float (f_quo (FP.fsub (FP.fsub (rr 3) (FP.fmul ((f_lev 2 (f_lev 1 ww (f_q (cK1 rr))) (f_q (cK2 ww rr))) 1) (rr 2))) (FP.fmul ((f_lev 2 (f_lev 1 ww (f_q (cK1 rr))) (f_q (cK2 ww rr))) 2) (rr 1))) (FP.fmul (FP.fmul (rr 0) (FP.fsub FP.fconst1 (FP.fmul (f_q (cK1 rr)) (f_q (cK1 rr))))) (FP.fsub FP.fconst1 (FP.fmul (f_q (cK2 ww rr)) (f_q (cK2 ww rr))))))), (3, .float (FP.fsub (FP.fsub (rr 3) (FP.fmul ((f_lev 2 (f_lev 1 ww (f_q (cK1 rr))) (f_q (cK2 ww rr))) 1) (rr 2))) (FP.fmul ((f_lev 2 (f_lev 1 ww (f_q (cK1 rr))) (f_q (cK2 ww rr))) 2) (rr 1)))), (2, .int 3), (0, .ref h0)]) hx hb dCod_chooseCodes_97 rfl hl (by decide) rfl (fun ls hl => ?_)
  refine lv_iinc (v := 4) (lv' := [(2, .int 4), (1, .float (FP.fmul (FP.fmul (FP.fmul (rr 0) (FP.fsub FP.fconst1 (FP.fmul (f_q (cK1 rr)) (f_q (cK1 rr))))) (FP.fsub FP.fconst1 (FP.fmul (f_q (cK2 ww rr)) (f_q (cK2 ww rr))))) (FP.fsub FP.fconst1 (FP.fmul (f_q (cK3 ww rr)) (f_q (cK3 ww rr)))))), (5, .float (f_q (cK3 ww rr))), (4, .float (f_quo (FP.fsub (FP.fsub (rr 3) (FP.fmul ((f_lev 2 (f_lev 1 ww (f_q (cK1 rr))) (f_q (cK2 ww rr))) 1) (rr 2))) (FP.fmul ((f_lev 2 (f_lev 1 ww (f_q (cK1 rr))) (f_q (cK2 ww rr))) 2) (rr 1))) (FP.fmul (FP.fmul (rr 0) (FP.fsub FP.fconst1 (FP.fmul (f_q (cK1 rr)) (f_q (cK1 rr))))) (FP.fsub FP.fconst1 (FP.fmul (f_q (cK2 ww rr)) (f_q (cK2 ww rr))))))), (3, .float (FP.fsub (FP.fsub (rr 3) (FP.fmul ((f_lev 2 (f_lev 1 ww (f_q (cK1 rr))) (f_q (cK2 ww rr))) 1) (rr 2))) (FP.fmul ((f_lev 2 (f_lev 1 ww (f_q (cK1 rr))) (f_q (cK2 ww rr))) 2) (rr 1)))), (0, .ref h0)]) hx hb dCod_chooseCodes_98 hl (k := 4) rfl (by decide) (by decide) rfl (fun ls hl => ?_)
  refine lv_goto (tgt := 9) hx hb dCod_chooseCodes_101 (by decide) ?_
  refine lv_iload_n hx hb dCod_chooseCodes_9 rfl (lv_at hl 0 rfl) ?_
  refine lv_iconst (v := 4) hx hb dCod_chooseCodes_10 (by decide) ?_
  refine lv_icmp_gt (tgt := 104) hx hb dCod_chooseCodes_11 (by decide) (fun c9 => absurd c9 (by decide)) (fun _ => ?_)
  refine lv_aload_n hx hb dCod_chooseCodes_14 rfl (lv_at hl 5 rfl) ?_
  refine va_get (D := D) (ci := 1) (v := .ref k0) hx hb ht inCod hown hK hP 0 rfl rfl 3 (by decide) (ht _ kf_Cod_25) (fun _ h9 => h9) rfl dCod_chooseCodes_15 ?_
  refine lv_iload_n hx hb dCod_chooseCodes_18 rfl (lv_at hl 0 rfl) ?_
  refine k_fald (j := 4) hx hb hK hP 1 0 rfl rfl (by unfold vp_in; decide) rfl dCod_chooseCodes_19 ?_
  refine lv_fstore_n (lv' := [(3, .float (rr 4)), (2, .int 4), (1, .float (FP.fmul (FP.fmul (FP.fmul (rr 0) (FP.fsub FP.fconst1 (FP.fmul (f_q (cK1 rr)) (f_q (cK1 rr))))) (FP.fsub FP.fconst1 (FP.fmul (f_q (cK2 ww rr)) (f_q (cK2 ww rr))))) (FP.fsub FP.fconst1 (FP.fmul (f_q (cK3 ww rr)) (f_q (cK3 ww rr)))))), (5, .float (f_q (cK3 ww rr))), (4, .float (f_quo (FP.fsub (FP.fsub (rr 3) (FP.fmul ((f_lev 2 (f_lev 1 ww (f_q (cK1 rr))) (f_q (cK2 ww rr))) 1) (rr 2))) (FP.fmul ((f_lev 2 (f_lev 1 ww (f_q (cK1 rr))) (f_q (cK2 ww rr))) 2) (rr 1))) (FP.fmul (FP.fmul (rr 0) (FP.fsub FP.fconst1 (FP.fmul (f_q (cK1 rr)) (f_q (cK1 rr))))) (FP.fsub FP.fconst1 (FP.fmul (f_q (cK2 ww rr)) (f_q (cK2 ww rr))))))), (0, .ref h0)]) hx hb dCod_chooseCodes_20 rfl hl (by decide) rfl (fun ls hl => ?_)
  refine lv_iconst (v := 1) hx hb dCod_chooseCodes_21 (by decide) ?_
  refine lv_istore (lv' := [(4, .int 1), (3, .float (rr 4)), (2, .int 4), (1, .float (FP.fmul (FP.fmul (FP.fmul (rr 0) (FP.fsub FP.fconst1 (FP.fmul (f_q (cK1 rr)) (f_q (cK1 rr))))) (FP.fsub FP.fconst1 (FP.fmul (f_q (cK2 ww rr)) (f_q (cK2 ww rr))))) (FP.fsub FP.fconst1 (FP.fmul (f_q (cK3 ww rr)) (f_q (cK3 ww rr)))))), (5, .float (f_q (cK3 ww rr))), (0, .ref h0)]) hx hb dCod_chooseCodes_22 hl (by decide) rfl (fun ls hl => ?_)
  refine lv_iload hx hb dCod_chooseCodes_24 (lv_at hl 0 rfl) ?_
  refine lv_iload_n hx hb dCod_chooseCodes_26 rfl (lv_at hl 2 rfl) ?_
  refine lv_icmp_ge (tgt := 59) hx hb dCod_chooseCodes_27 (by decide) (fun c9 => absurd c9 (by decide)) (fun _ => ?_)
  refine lv_fload_n hx hb dCod_chooseCodes_30 rfl (lv_at hl 1 rfl) ?_
  refine lv_aload_n hx hb dCod_chooseCodes_31 rfl (lv_at hl 5 rfl) ?_
  refine va_get (D := D) (ci := 1) (v := .ref p0) hx hb ht inCod hown hK hP 0 rfl rfl 1 (by decide) (ht _ kf_Cod_21) (fun _ h9 => h9) rfl dCod_chooseCodes_32 ?_
  refine va_get (D := D) (ci := 3) (v := .ref p2) hx hb ht inPac hown hK hP 2 rfl rfl 3 (by decide) (ht _ kf_Cod_71) (fun _ h9 => h9) rfl dCod_chooseCodes_35 ?_
  refine lv_iload hx hb dCod_chooseCodes_38 (lv_at hl 0 rfl) ?_
  refine k_fald (j := 1) hx hb hK hP 4 0 rfl rfl (by unfold vp_in; decide) rfl dCod_chooseCodes_40 ?_
  refine lv_aload_n hx hb dCod_chooseCodes_41 rfl (lv_at hl 5 rfl) ?_
  refine va_get (D := D) (ci := 1) (v := .ref k0) hx hb ht inCod hown hK hP 0 rfl rfl 3 (by decide) (ht _ kf_Cod_25) (fun _ h9 => h9) rfl dCod_chooseCodes_42 ?_
  refine lv_iload_n hx hb dCod_chooseCodes_45 rfl (lv_at hl 2 rfl) ?_
  refine lv_iload hx hb dCod_chooseCodes_46 (lv_at hl 0 rfl) ?_
  refine k_isub (v := 3) hx hb dCod_chooseCodes_48 (by decide) ?_
  refine k_fald (j := 3) hx hb hK hP 1 0 rfl rfl (by unfold vp_in; decide) rfl dCod_chooseCodes_49 ?_
  refine lv_fmul hx hb dCod_chooseCodes_50 (fk_n (fk_mul ((lev_k (q_k (rnd_ok _)) (lev_k (q_k (rnd_ok _)) (lev_k (q_k (rnd_ok _)) b_0 (by decide) (by decide)) (by decide) (by decide)) (by decide) (by decide)) 1 (by decide) (by decide)) (hrr _) (by decide) (by decide)) (by decide)) ?_
  refine lv_fsub hx hb dCod_chooseCodes_51 (fk_n (fk_sub (K := 199) (fk_mono (hrr _) (by decide)) (fk_mono (fk_mul ((lev_k (q_k (rnd_ok _)) (lev_k (q_k (rnd_ok _)) (lev_k (q_k (rnd_ok _)) b_0 (by decide) (by decide)) (by decide) (by decide)) (by decide) (by decide)) 1 (by decide) (by decide)) (hrr _) (by decide) (by decide)) (by decide)) (by decide)) (by decide)) ?_
  refine lv_fstore_n (lv' := [(3, .float (FP.fsub (rr 4) (FP.fmul ((f_lev 3 (f_lev 2 (f_lev 1 ww (f_q (cK1 rr))) (f_q (cK2 ww rr))) (f_q (cK3 ww rr))) 1) (rr 3)))), (4, .int 1), (2, .int 4), (1, .float (FP.fmul (FP.fmul (FP.fmul (rr 0) (FP.fsub FP.fconst1 (FP.fmul (f_q (cK1 rr)) (f_q (cK1 rr))))) (FP.fsub FP.fconst1 (FP.fmul (f_q (cK2 ww rr)) (f_q (cK2 ww rr))))) (FP.fsub FP.fconst1 (FP.fmul (f_q (cK3 ww rr)) (f_q (cK3 ww rr)))))), (5, .float (f_q (cK3 ww rr))), (0, .ref h0)]) hx hb dCod_chooseCodes_52 rfl hl (by decide) rfl (fun ls hl => ?_)
  refine lv_iinc (v := 2) (lv' := [(4, .int 2), (3, .float (FP.fsub (rr 4) (FP.fmul ((f_lev 3 (f_lev 2 (f_lev 1 ww (f_q (cK1 rr))) (f_q (cK2 ww rr))) (f_q (cK3 ww rr))) 1) (rr 3)))), (2, .int 4), (1, .float (FP.fmul (FP.fmul (FP.fmul (rr 0) (FP.fsub FP.fconst1 (FP.fmul (f_q (cK1 rr)) (f_q (cK1 rr))))) (FP.fsub FP.fconst1 (FP.fmul (f_q (cK2 ww rr)) (f_q (cK2 ww rr))))) (FP.fsub FP.fconst1 (FP.fmul (f_q (cK3 ww rr)) (f_q (cK3 ww rr)))))), (5, .float (f_q (cK3 ww rr))), (0, .ref h0)]) hx hb dCod_chooseCodes_53 hl (k := 1) rfl (by decide) (by decide) rfl (fun ls hl => ?_)
  refine lv_goto (tgt := 24) hx hb dCod_chooseCodes_56 (by decide) ?_
  refine lv_iload hx hb dCod_chooseCodes_24 (lv_at hl 0 rfl) ?_
  refine lv_iload_n hx hb dCod_chooseCodes_26 rfl (lv_at hl 2 rfl) ?_
  refine lv_icmp_ge (tgt := 59) hx hb dCod_chooseCodes_27 (by decide) (fun c9 => absurd c9 (by decide)) (fun _ => ?_)
  refine lv_fload_n hx hb dCod_chooseCodes_30 rfl (lv_at hl 1 rfl) ?_
  refine lv_aload_n hx hb dCod_chooseCodes_31 rfl (lv_at hl 5 rfl) ?_
  refine va_get (D := D) (ci := 1) (v := .ref p0) hx hb ht inCod hown hK hP 0 rfl rfl 1 (by decide) (ht _ kf_Cod_21) (fun _ h9 => h9) rfl dCod_chooseCodes_32 ?_
  refine va_get (D := D) (ci := 3) (v := .ref p2) hx hb ht inPac hown hK hP 2 rfl rfl 3 (by decide) (ht _ kf_Cod_71) (fun _ h9 => h9) rfl dCod_chooseCodes_35 ?_
  refine lv_iload hx hb dCod_chooseCodes_38 (lv_at hl 0 rfl) ?_
  refine k_fald (j := 2) hx hb hK hP 4 0 rfl rfl (by unfold vp_in; decide) rfl dCod_chooseCodes_40 ?_
  refine lv_aload_n hx hb dCod_chooseCodes_41 rfl (lv_at hl 5 rfl) ?_
  refine va_get (D := D) (ci := 1) (v := .ref k0) hx hb ht inCod hown hK hP 0 rfl rfl 3 (by decide) (ht _ kf_Cod_25) (fun _ h9 => h9) rfl dCod_chooseCodes_42 ?_
  refine lv_iload_n hx hb dCod_chooseCodes_45 rfl (lv_at hl 2 rfl) ?_
  refine lv_iload hx hb dCod_chooseCodes_46 (lv_at hl 0 rfl) ?_
  refine k_isub (v := 2) hx hb dCod_chooseCodes_48 (by decide) ?_
  refine k_fald (j := 2) hx hb hK hP 1 0 rfl rfl (by unfold vp_in; decide) rfl dCod_chooseCodes_49 ?_
  refine lv_fmul hx hb dCod_chooseCodes_50 (fk_n (fk_mul ((lev_k (q_k (rnd_ok _)) (lev_k (q_k (rnd_ok _)) (lev_k (q_k (rnd_ok _)) b_0 (by decide) (by decide)) (by decide) (by decide)) (by decide) (by decide)) 2 (by decide) (by decide)) (hrr _) (by decide) (by decide)) (by decide)) ?_
  refine lv_fsub hx hb dCod_chooseCodes_51 (fk_n (fk_sub (K := 201) (fk_mono (fk_sub (K := 199) (fk_mono (hrr _) (by decide)) (fk_mono (fk_mul ((lev_k (q_k (rnd_ok _)) (lev_k (q_k (rnd_ok _)) (lev_k (q_k (rnd_ok _)) b_0 (by decide) (by decide)) (by decide) (by decide)) (by decide) (by decide)) 1 (by decide) (by decide)) (hrr _) (by decide) (by decide)) (by decide)) (by decide)) (by decide)) (fk_mono (fk_mul ((lev_k (q_k (rnd_ok _)) (lev_k (q_k (rnd_ok _)) (lev_k (q_k (rnd_ok _)) b_0 (by decide) (by decide)) (by decide) (by decide)) (by decide) (by decide)) 2 (by decide) (by decide)) (hrr _) (by decide) (by decide)) (by decide)) (by decide)) (by decide)) ?_
  refine lv_fstore_n (lv' := [(3, .float (FP.fsub (FP.fsub (rr 4) (FP.fmul ((f_lev 3 (f_lev 2 (f_lev 1 ww (f_q (cK1 rr))) (f_q (cK2 ww rr))) (f_q (cK3 ww rr))) 1) (rr 3))) (FP.fmul ((f_lev 3 (f_lev 2 (f_lev 1 ww (f_q (cK1 rr))) (f_q (cK2 ww rr))) (f_q (cK3 ww rr))) 2) (rr 2)))), (4, .int 2), (2, .int 4), (1, .float (FP.fmul (FP.fmul (FP.fmul (rr 0) (FP.fsub FP.fconst1 (FP.fmul (f_q (cK1 rr)) (f_q (cK1 rr))))) (FP.fsub FP.fconst1 (FP.fmul (f_q (cK2 ww rr)) (f_q (cK2 ww rr))))) (FP.fsub FP.fconst1 (FP.fmul (f_q (cK3 ww rr)) (f_q (cK3 ww rr)))))), (5, .float (f_q (cK3 ww rr))), (0, .ref h0)]) hx hb dCod_chooseCodes_52 rfl hl (by decide) rfl (fun ls hl => ?_)
  refine lv_iinc (v := 3) (lv' := [(4, .int 3), (3, .float (FP.fsub (FP.fsub (rr 4) (FP.fmul ((f_lev 3 (f_lev 2 (f_lev 1 ww (f_q (cK1 rr))) (f_q (cK2 ww rr))) (f_q (cK3 ww rr))) 1) (rr 3))) (FP.fmul ((f_lev 3 (f_lev 2 (f_lev 1 ww (f_q (cK1 rr))) (f_q (cK2 ww rr))) (f_q (cK3 ww rr))) 2) (rr 2)))), (2, .int 4), (1, .float (FP.fmul (FP.fmul (FP.fmul (rr 0) (FP.fsub FP.fconst1 (FP.fmul (f_q (cK1 rr)) (f_q (cK1 rr))))) (FP.fsub FP.fconst1 (FP.fmul (f_q (cK2 ww rr)) (f_q (cK2 ww rr))))) (FP.fsub FP.fconst1 (FP.fmul (f_q (cK3 ww rr)) (f_q (cK3 ww rr)))))), (5, .float (f_q (cK3 ww rr))), (0, .ref h0)]) hx hb dCod_chooseCodes_53 hl (k := 1) rfl (by decide) (by decide) rfl (fun ls hl => ?_)
  refine lv_goto (tgt := 24) hx hb dCod_chooseCodes_56 (by decide) ?_
  refine lv_iload hx hb dCod_chooseCodes_24 (lv_at hl 0 rfl) ?_
  refine lv_iload_n hx hb dCod_chooseCodes_26 rfl (lv_at hl 2 rfl) ?_
  refine lv_icmp_ge (tgt := 59) hx hb dCod_chooseCodes_27 (by decide) (fun c9 => absurd c9 (by decide)) (fun _ => ?_)
  refine lv_fload_n hx hb dCod_chooseCodes_30 rfl (lv_at hl 1 rfl) ?_
  refine lv_aload_n hx hb dCod_chooseCodes_31 rfl (lv_at hl 5 rfl) ?_
  refine va_get (D := D) (ci := 1) (v := .ref p0) hx hb ht inCod hown hK hP 0 rfl rfl 1 (by decide) (ht _ kf_Cod_21) (fun _ h9 => h9) rfl dCod_chooseCodes_32 ?_
  refine va_get (D := D) (ci := 3) (v := .ref p2) hx hb ht inPac hown hK hP 2 rfl rfl 3 (by decide) (ht _ kf_Cod_71) (fun _ h9 => h9) rfl dCod_chooseCodes_35 ?_
  refine lv_iload hx hb dCod_chooseCodes_38 (lv_at hl 0 rfl) ?_
  refine k_fald (j := 3) hx hb hK hP 4 0 rfl rfl (by unfold vp_in; decide) rfl dCod_chooseCodes_40 ?_
  refine lv_aload_n hx hb dCod_chooseCodes_41 rfl (lv_at hl 5 rfl) ?_
  refine va_get (D := D) (ci := 1) (v := .ref k0) hx hb ht inCod hown hK hP 0 rfl rfl 3 (by decide) (ht _ kf_Cod_25) (fun _ h9 => h9) rfl dCod_chooseCodes_42 ?_
  refine lv_iload_n hx hb dCod_chooseCodes_45 rfl (lv_at hl 2 rfl) ?_
  refine lv_iload hx hb dCod_chooseCodes_46 (lv_at hl 0 rfl) ?_
  refine k_isub (v := 1) hx hb dCod_chooseCodes_48 (by decide) ?_
  refine k_fald (j := 1) hx hb hK hP 1 0 rfl rfl (by unfold vp_in; decide) rfl dCod_chooseCodes_49 ?_
  refine lv_fmul hx hb dCod_chooseCodes_50 (fk_n (fk_mul ((lev_k (q_k (rnd_ok _)) (lev_k (q_k (rnd_ok _)) (lev_k (q_k (rnd_ok _)) b_0 (by decide) (by decide)) (by decide) (by decide)) (by decide) (by decide)) 3 (by decide) (by decide)) (hrr _) (by decide) (by decide)) (by decide)) ?_
  refine lv_fsub hx hb dCod_chooseCodes_51 (fk_n (fk_sub (K := 203) (fk_mono (fk_sub (K := 201) (fk_mono (fk_sub (K := 199) (fk_mono (hrr _) (by decide)) (fk_mono (fk_mul ((lev_k (q_k (rnd_ok _)) (lev_k (q_k (rnd_ok _)) (lev_k (q_k (rnd_ok _)) b_0 (by decide) (by decide)) (by decide) (by decide)) (by decide) (by decide)) 1 (by decide) (by decide)) (hrr _) (by decide) (by decide)) (by decide)) (by decide)) (by decide)) (fk_mono (fk_mul ((lev_k (q_k (rnd_ok _)) (lev_k (q_k (rnd_ok _)) (lev_k (q_k (rnd_ok _)) b_0 (by decide) (by decide)) (by decide) (by decide)) (by decide) (by decide)) 2 (by decide) (by decide)) (hrr _) (by decide) (by decide)) (by decide)) (by decide)) (by decide)) (fk_mono (fk_mul ((lev_k (q_k (rnd_ok _)) (lev_k (q_k (rnd_ok _)) (lev_k (q_k (rnd_ok _)) b_0 (by decide) (by decide)) (by decide) (by decide)) (by decide) (by decide)) 3 (by decide) (by decide)) (hrr _) (by decide) (by decide)) (by decide)) (by decide)) (by decide)) ?_
  refine lv_fstore_n (lv' := [(3, .float (FP.fsub (FP.fsub (FP.fsub (rr 4) (FP.fmul ((f_lev 3 (f_lev 2 (f_lev 1 ww (f_q (cK1 rr))) (f_q (cK2 ww rr))) (f_q (cK3 ww rr))) 1) (rr 3))) (FP.fmul ((f_lev 3 (f_lev 2 (f_lev 1 ww (f_q (cK1 rr))) (f_q (cK2 ww rr))) (f_q (cK3 ww rr))) 2) (rr 2))) (FP.fmul ((f_lev 3 (f_lev 2 (f_lev 1 ww (f_q (cK1 rr))) (f_q (cK2 ww rr))) (f_q (cK3 ww rr))) 3) (rr 1)))), (4, .int 3), (2, .int 4), (1, .float (FP.fmul (FP.fmul (FP.fmul (rr 0) (FP.fsub FP.fconst1 (FP.fmul (f_q (cK1 rr)) (f_q (cK1 rr))))) (FP.fsub FP.fconst1 (FP.fmul (f_q (cK2 ww rr)) (f_q (cK2 ww rr))))) (FP.fsub FP.fconst1 (FP.fmul (f_q (cK3 ww rr)) (f_q (cK3 ww rr)))))), (5, .float (f_q (cK3 ww rr))), (0, .ref h0)]) hx hb dCod_chooseCodes_52 rfl hl (by decide) rfl (fun ls hl => ?_)
  refine lv_iinc (v := 4) (lv' := [(4, .int 4), (3, .float (FP.fsub (FP.fsub (FP.fsub (rr 4) (FP.fmul ((f_lev 3 (f_lev 2 (f_lev 1 ww (f_q (cK1 rr))) (f_q (cK2 ww rr))) (f_q (cK3 ww rr))) 1) (rr 3))) (FP.fmul ((f_lev 3 (f_lev 2 (f_lev 1 ww (f_q (cK1 rr))) (f_q (cK2 ww rr))) (f_q (cK3 ww rr))) 2) (rr 2))) (FP.fmul ((f_lev 3 (f_lev 2 (f_lev 1 ww (f_q (cK1 rr))) (f_q (cK2 ww rr))) (f_q (cK3 ww rr))) 3) (rr 1)))), (2, .int 4), (1, .float (FP.fmul (FP.fmul (FP.fmul (rr 0) (FP.fsub FP.fconst1 (FP.fmul (f_q (cK1 rr)) (f_q (cK1 rr))))) (FP.fsub FP.fconst1 (FP.fmul (f_q (cK2 ww rr)) (f_q (cK2 ww rr))))) (FP.fsub FP.fconst1 (FP.fmul (f_q (cK3 ww rr)) (f_q (cK3 ww rr)))))), (5, .float (f_q (cK3 ww rr))), (0, .ref h0)]) hx hb dCod_chooseCodes_53 hl (k := 1) rfl (by decide) (by decide) rfl (fun ls hl => ?_)
  refine lv_goto (tgt := 24) hx hb dCod_chooseCodes_56 (by decide) ?_
  refine lv_iload hx hb dCod_chooseCodes_24 (lv_at hl 0 rfl) ?_
  refine lv_iload_n hx hb dCod_chooseCodes_26 rfl (lv_at hl 2 rfl) ?_
  refine lv_icmp_ge (tgt := 59) hx hb dCod_chooseCodes_27 (by decide) (fun _ => ?_) (fun c9 => absurd (by decide) c9)
  refine lv_fload_n hx hb dCod_chooseCodes_59 rfl (lv_at hl 1 rfl) ?_
  refine lv_fload_n hx hb dCod_chooseCodes_60 rfl (lv_at hl 3 rfl) ?_
  refine q_f (wc := []) (wr := [(h0, .inr (1, [.ref v0, .ref p0, .int np, .ref k0])), (k0, .inl (cF, 5, .inr (.inr (.inl rr)))), (p0, .inr (3, [.int pl, .int pg, .ref p1, .ref p2, .ref p3])), (p1, .inl (cI, 5, .inl (upd (upd (upd kc 1 (cK1 rr)) 2 (cK2 ww rr)) 3 (cK3 ww rr)))), (p2, .inl (cF, 5, .inr (.inr (.inl (f_lev 3 (f_lev 2 (f_lev 1 ww (f_q (cK1 rr))) (f_q (cK2 ww rr))) (f_q (cK3 ww rr)))))))]) [] [0, 1, 2, 3, 4] hK hP hD hS hA rfl rfl (by decide) (by decide) (va_runSN (As := [.float (FP.fsub (FP.fsub (FP.fsub (rr 4) (FP.fmul ((f_lev 3 (f_lev 2 (f_lev 1 ww (f_q (cK1 rr))) (f_q (cK2 ww rr))) (f_q (cK3 ww rr))) 1) (rr 3))) (FP.fmul ((f_lev 3 (f_lev 2 (f_lev 1 ww (f_q (cK1 rr))) (f_q (cK2 ww rr))) (f_q (cK3 ww rr))) 2) (rr 2))) (FP.fmul ((f_lev 3 (f_lev 2 (f_lev 1 ww (f_q (cK1 rr))) (f_q (cK2 ww rr))) (f_q (cK3 ww rr))) 3) (rr 1))), .float (FP.fmul (FP.fmul (FP.fmul (rr 0) (FP.fsub FP.fconst1 (FP.fmul (f_q (cK1 rr)) (f_q (cK1 rr))))) (FP.fsub FP.fconst1 (FP.fmul (f_q (cK2 ww rr)) (f_q (cK2 ww rr))))) (FP.fsub FP.fconst1 (FP.fmul (f_q (cK3 ww rr)) (f_q (cK3 ww rr)))))]) (rest := []) ⟨hx, hb, hml, hown, ht⟩ (c_VF_quotient l D cF cI H.size (FP.fsub (FP.fsub (FP.fsub (rr 4) (FP.fmul ((f_lev 3 (f_lev 2 (f_lev 1 ww (f_q (cK1 rr))) (f_q (cK2 ww rr))) (f_q (cK3 ww rr))) 1) (rr 3))) (FP.fmul ((f_lev 3 (f_lev 2 (f_lev 1 ww (f_q (cK1 rr))) (f_q (cK2 ww rr))) (f_q (cK3 ww rr))) 2) (rr 2))) (FP.fmul ((f_lev 3 (f_lev 2 (f_lev 1 ww (f_q (cK1 rr))) (f_q (cK2 ww rr))) (f_q (cK3 ww rr))) 3) (rr 1))) (FP.fmul (FP.fmul (FP.fmul (rr 0) (FP.fsub FP.fconst1 (FP.fmul (f_q (cK1 rr)) (f_q (cK1 rr))))) (FP.fsub FP.fconst1 (FP.fmul (f_q (cK2 ww rr)) (f_q (cK2 ww rr))))) (FP.fsub FP.fconst1 (FP.fmul (f_q (cK3 ww rr)) (f_q (cK3 ww rr))))) (n_quo (fk_sub (K := 203) (fk_mono (fk_sub (K := 201) (fk_mono (fk_sub (K := 199) (fk_mono (hrr _) (by decide)) (fk_mono (fk_mul ((lev_k (q_k (rnd_ok _)) (lev_k (q_k (rnd_ok _)) (lev_k (q_k (rnd_ok _)) b_0 (by decide) (by decide)) (by decide) (by decide)) (by decide) (by decide)) 1 (by decide) (by decide)) (hrr _) (by decide) (by decide)) (by decide)) (by decide)) (by decide)) (fk_mono (fk_mul ((lev_k (q_k (rnd_ok _)) (lev_k (q_k (rnd_ok _)) (lev_k (q_k (rnd_ok _)) b_0 (by decide) (by decide)) (by decide) (by decide)) (by decide) (by decide)) 2 (by decide) (by decide)) (hrr _) (by decide) (by decide)) (by decide)) (by decide)) (by decide)) (fk_mono (fk_mul ((lev_k (q_k (rnd_ok _)) (lev_k (q_k (rnd_ok _)) (lev_k (q_k (rnd_ok _)) b_0 (by decide) (by decide)) (by decide) (by decide)) (by decide) (by decide)) 3 (by decide) (by decide)) (hrr _) (by decide) (by decide)) (by decide)) (by decide)) (fk_mul (fk_mul (fk_mul (hrr _) (fk_sub (K := 128) (fk_mono (show fk 128 FP.fconst1 by unfold fk; decide) (by decide)) (fk_mono (fk_mul (q_k (rnd_ok _)) (q_k (rnd_ok _)) (by decide) (by decide)) (by decide)) (by decide)) (by decide) (by decide)) (fk_sub (K := 128) (fk_mono (show fk 128 FP.fconst1 by unfold fk; decide) (by decide)) (fk_mono (fk_mul (q_k (rnd_ok _)) (q_k (rnd_ok _)) (by decide) (by decide)) (by decide)) (by decide)) (by decide) (by decide)) (fk_sub (K := 128) (fk_mono (show fk 128 FP.fconst1 by unfold fk; decide) (by decide)) (fk_mono (fk_mul (q_k (rnd_ok _)) (q_k (rnd_ok _)) (by decide) (by decide)) (by decide)) (by decide)) (by decide) (by decide)) (by decide) (by decide))) ⟨va_cnB 2 ht (g_C kc_VF_quotient) rfl rfl rfl (hmb.1 _ (List.mem_of_getElem? (i := 7) rfl)) (ht _ kI_VF) (by decide +kernel) ⟨Nat.le_of_ble_eq_true rfl, Nat.le_of_ble_eq_true rfl⟩, ht _ ks_VF_quotient, trivial⟩ (cPre_S hK hmb (hP.sub (ws' := []) [] rfl) (hD.sub (ws' := []) [] (by decide) rfl)) rfl rfl hl.1 rfl (lv_room (Nat.le_of_ble_eq_true rfl)) dCod_chooseCodes_61 ⟨Nat.le_of_ble_eq_true rfl, Nat.le_of_ble_eq_true rfl⟩) (fun r42 u43 H locs w44 hP hD hS => ?_)
  subst w44
  have hP : va_P D vwCl [(h0, .inr (1, [.ref v0, .ref p0, .int np, .ref k0])), (k0, .inl (cF, 5, .inr (.inr (.inl rr)))), (p0, .inr (3, [.int pl, .int pg, .ref p1, .ref p2, .ref p3])), (p1, .inl (cI, 5, .inl (upd (upd (upd kc 1 (cK1 rr)) 2 (cK2 ww rr)) 3 (cK3 ww rr)))), (p2, .inl (cF, 5, .inr (.inr (.inl (f_lev 3 (f_lev 2 (f_lev 1 ww (f_q (cK1 rr))) (f_q (cK2 ww rr))) (f_q (cK3 ww rr)))))))] H := hP
  have hD : va_D A [(h0, .inr (1, [.ref v0, .ref p0, .int np, .ref k0])), (k0, .inl (cF, 5, .inr (.inr (.inl rr)))), (p0, .inr (3, [.int pl, .int pg, .ref p1, .ref p2, .ref p3])), (p1, .inl (cI, 5, .inl (upd (upd (upd kc 1 (cK1 rr)) 2 (cK2 ww rr)) 3 (cK3 ww rr)))), (p2, .inl (cF, 5, .inr (.inr (.inl (f_lev 3 (f_lev 2 (f_lev 1 ww (f_q (cK1 rr))) (f_q (cK2 ww rr))) (f_q (cK3 ww rr)))))))] := hD
  refine lv_fstore (lv' := [(4, .float (f_quo (FP.fsub (FP.fsub (FP.fsub (rr 4) (FP.fmul ((f_lev 3 (f_lev 2 (f_lev 1 ww (f_q (cK1 rr))) (f_q (cK2 ww rr))) (f_q (cK3 ww rr))) 1) (rr 3))) (FP.fmul ((f_lev 3 (f_lev 2 (f_lev 1 ww (f_q (cK1 rr))) (f_q (cK2 ww rr))) (f_q (cK3 ww rr))) 2) (rr 2))) (FP.fmul ((f_lev 3 (f_lev 2 (f_lev 1 ww (f_q (cK1 rr))) (f_q (cK2 ww rr))) (f_q (cK3 ww rr))) 3) (rr 1))) (FP.fmul (FP.fmul (FP.fmul (rr 0) (FP.fsub FP.fconst1 (FP.fmul (f_q (cK1 rr)) (f_q (cK1 rr))))) (FP.fsub FP.fconst1 (FP.fmul (f_q (cK2 ww rr)) (f_q (cK2 ww rr))))) (FP.fsub FP.fconst1 (FP.fmul (f_q (cK3 ww rr)) (f_q (cK3 ww rr))))))), (3, .float (FP.fsub (FP.fsub (FP.fsub (rr 4) (FP.fmul ((f_lev 3 (f_lev 2 (f_lev 1 ww (f_q (cK1 rr))) (f_q (cK2 ww rr))) (f_q (cK3 ww rr))) 1) (rr 3))) (FP.fmul ((f_lev 3 (f_lev 2 (f_lev 1 ww (f_q (cK1 rr))) (f_q (cK2 ww rr))) (f_q (cK3 ww rr))) 2) (rr 2))) (FP.fmul ((f_lev 3 (f_lev 2 (f_lev 1 ww (f_q (cK1 rr))) (f_q (cK2 ww rr))) (f_q (cK3 ww rr))) 3) (rr 1)))), (2, .int 4), (1, .float (FP.fmul (FP.fmul (FP.fmul (rr 0) (FP.fsub FP.fconst1 (FP.fmul (f_q (cK1 rr)) (f_q (cK1 rr))))) (FP.fsub FP.fconst1 (FP.fmul (f_q (cK2 ww rr)) (f_q (cK2 ww rr))))) (FP.fsub FP.fconst1 (FP.fmul (f_q (cK3 ww rr)) (f_q (cK3 ww rr)))))), (5, .float (f_q (cK3 ww rr))), (0, .ref h0)]) hx hb dCod_chooseCodes_64 hl (by decide) rfl (fun ls hl => ?_)
  refine lv_aload_n hx hb dCod_chooseCodes_66 rfl (lv_at hl 5 rfl) ?_
  refine va_get (D := D) (ci := 1) (v := .ref p0) hx hb ht inCod hown hK hP 0 rfl rfl 1 (by decide) (ht _ kf_Cod_21) (fun _ h9 => h9) rfl dCod_chooseCodes_67 ?_
  refine lv_iload_n hx hb dCod_chooseCodes_70 rfl (lv_at hl 2 rfl) ?_
  refine lv_fload hx hb dCod_chooseCodes_71 (lv_at hl 0 rfl) ?_
  refine lv_ldcf (v := 1098907648) hx hb hown (ht _ kk_Cod_78) dCod_chooseCodes_73 ?_
  refine lv_fmul hx hb dCod_chooseCodes_75 (n_16 (n_fq (fk_sub (K := 203) (fk_mono (fk_sub (K := 201) (fk_mono (fk_sub (K := 199) (fk_mono (hrr _) (by decide)) (fk_mono (fk_mul ((lev_k (q_k (rnd_ok _)) (lev_k (q_k (rnd_ok _)) (lev_k (q_k (rnd_ok _)) b_0 (by decide) (by decide)) (by decide) (by decide)) (by decide) (by decide)) 1 (by decide) (by decide)) (hrr _) (by decide) (by decide)) (by decide)) (by decide)) (by decide)) (fk_mono (fk_mul ((lev_k (q_k (rnd_ok _)) (lev_k (q_k (rnd_ok _)) (lev_k (q_k (rnd_ok _)) b_0 (by decide) (by decide)) (by decide) (by decide)) (by decide) (by decide)) 2 (by decide) (by decide)) (hrr _) (by decide) (by decide)) (by decide)) (by decide)) (by decide)) (fk_mono (fk_mul ((lev_k (q_k (rnd_ok _)) (lev_k (q_k (rnd_ok _)) (lev_k (q_k (rnd_ok _)) b_0 (by decide) (by decide)) (by decide) (by decide)) (by decide) (by decide)) 3 (by decide) (by decide)) (hrr _) (by decide) (by decide)) (by decide)) (by decide)) (fk_mul (fk_mul (fk_mul (hrr _) (fk_sub (K := 128) (fk_mono (show fk 128 FP.fconst1 by unfold fk; decide) (by decide)) (fk_mono (fk_mul (q_k (rnd_ok _)) (q_k (rnd_ok _)) (by decide) (by decide)) (by decide)) (by decide)) (by decide) (by decide)) (fk_sub (K := 128) (fk_mono (show fk 128 FP.fconst1 by unfold fk; decide) (by decide)) (fk_mono (fk_mul (q_k (rnd_ok _)) (q_k (rnd_ok _)) (by decide) (by decide)) (by decide)) (by decide)) (by decide) (by decide)) (fk_sub (K := 128) (fk_mono (show fk 128 FP.fconst1 by unfold fk; decide) (by decide)) (fk_mono (fk_mul (q_k (rnd_ok _)) (q_k (rnd_ok _)) (by decide) (by decide)) (by decide)) (by decide)) (by decide) (by decide)) (by decide) (by decide))) ?_
  refine lv_bipush (v := (-15)) hx hb dCod_chooseCodes_76 (by decide) ?_
  refine lv_bipush (v := 15) hx hb dCod_chooseCodes_78 (by decide) ?_
  refine q_i (wc := []) (wr := [(h0, .inr (1, [.ref v0, .ref p0, .int np, .ref k0])), (k0, .inl (cF, 5, .inr (.inr (.inl rr)))), (p0, .inr (3, [.int pl, .int pg, .ref p1, .ref p2, .ref p3])), (p1, .inl (cI, 5, .inl (upd (upd (upd kc 1 (cK1 rr)) 2 (cK2 ww rr)) 3 (cK3 ww rr)))), (p2, .inl (cF, 5, .inr (.inr (.inl (f_lev 3 (f_lev 2 (f_lev 1 ww (f_q (cK1 rr))) (f_q (cK2 ww rr))) (f_q (cK3 ww rr)))))))]) [] [0, 1, 2, 3, 4] hK hP hD hS hA rfl rfl (by decide) (by decide) (va_runSN (As := [.float (FP.fmul (f_quo (FP.fsub (FP.fsub (FP.fsub (rr 4) (FP.fmul ((f_lev 3 (f_lev 2 (f_lev 1 ww (f_q (cK1 rr))) (f_q (cK2 ww rr))) (f_q (cK3 ww rr))) 1) (rr 3))) (FP.fmul ((f_lev 3 (f_lev 2 (f_lev 1 ww (f_q (cK1 rr))) (f_q (cK2 ww rr))) (f_q (cK3 ww rr))) 2) (rr 2))) (FP.fmul ((f_lev 3 (f_lev 2 (f_lev 1 ww (f_q (cK1 rr))) (f_q (cK2 ww rr))) (f_q (cK3 ww rr))) 3) (rr 1))) (FP.fmul (FP.fmul (FP.fmul (rr 0) (FP.fsub FP.fconst1 (FP.fmul (f_q (cK1 rr)) (f_q (cK1 rr))))) (FP.fsub FP.fconst1 (FP.fmul (f_q (cK2 ww rr)) (f_q (cK2 ww rr))))) (FP.fsub FP.fconst1 (FP.fmul (f_q (cK3 ww rr)) (f_q (cK3 ww rr)))))) 1098907648), .int (-15), .int 15]) (rest := [.int 4, .ref p0]) ⟨hx, hb, hml, hown, ht⟩ (c_VF_rounded l D cF cI H.size (FP.fmul (f_quo (FP.fsub (FP.fsub (FP.fsub (rr 4) (FP.fmul ((f_lev 3 (f_lev 2 (f_lev 1 ww (f_q (cK1 rr))) (f_q (cK2 ww rr))) (f_q (cK3 ww rr))) 1) (rr 3))) (FP.fmul ((f_lev 3 (f_lev 2 (f_lev 1 ww (f_q (cK1 rr))) (f_q (cK2 ww rr))) (f_q (cK3 ww rr))) 2) (rr 2))) (FP.fmul ((f_lev 3 (f_lev 2 (f_lev 1 ww (f_q (cK1 rr))) (f_q (cK2 ww rr))) (f_q (cK3 ww rr))) 3) (rr 1))) (FP.fmul (FP.fmul (FP.fmul (rr 0) (FP.fsub FP.fconst1 (FP.fmul (f_q (cK1 rr)) (f_q (cK1 rr))))) (FP.fsub FP.fconst1 (FP.fmul (f_q (cK2 ww rr)) (f_q (cK2 ww rr))))) (FP.fsub FP.fconst1 (FP.fmul (f_q (cK3 ww rr)) (f_q (cK3 ww rr)))))) 1098907648) (-15) 15 (n_r1 (n_16 (n_fq (fk_sub (K := 203) (fk_mono (fk_sub (K := 201) (fk_mono (fk_sub (K := 199) (fk_mono (hrr _) (by decide)) (fk_mono (fk_mul ((lev_k (q_k (rnd_ok _)) (lev_k (q_k (rnd_ok _)) (lev_k (q_k (rnd_ok _)) b_0 (by decide) (by decide)) (by decide) (by decide)) (by decide) (by decide)) 1 (by decide) (by decide)) (hrr _) (by decide) (by decide)) (by decide)) (by decide)) (by decide)) (fk_mono (fk_mul ((lev_k (q_k (rnd_ok _)) (lev_k (q_k (rnd_ok _)) (lev_k (q_k (rnd_ok _)) b_0 (by decide) (by decide)) (by decide) (by decide)) (by decide) (by decide)) 2 (by decide) (by decide)) (hrr _) (by decide) (by decide)) (by decide)) (by decide)) (by decide)) (fk_mono (fk_mul ((lev_k (q_k (rnd_ok _)) (lev_k (q_k (rnd_ok _)) (lev_k (q_k (rnd_ok _)) b_0 (by decide) (by decide)) (by decide) (by decide)) (by decide) (by decide)) 3 (by decide) (by decide)) (hrr _) (by decide) (by decide)) (by decide)) (by decide)) (fk_mul (fk_mul (fk_mul (hrr _) (fk_sub (K := 128) (fk_mono (show fk 128 FP.fconst1 by unfold fk; decide) (by decide)) (fk_mono (fk_mul (q_k (rnd_ok _)) (q_k (rnd_ok _)) (by decide) (by decide)) (by decide)) (by decide)) (by decide) (by decide)) (fk_sub (K := 128) (fk_mono (show fk 128 FP.fconst1 by unfold fk; decide) (by decide)) (fk_mono (fk_mul (q_k (rnd_ok _)) (q_k (rnd_ok _)) (by decide) (by decide)) (by decide)) (by decide)) (by decide) (by decide)) (fk_sub (K := 128) (fk_mono (show fk 128 FP.fconst1 by unfold fk; decide) (by decide)) (fk_mono (fk_mul (q_k (rnd_ok _)) (q_k (rnd_ok _)) (by decide) (by decide)) (by decide)) (by decide)) (by decide) (by decide)) (by decide) (by decide)))) (n_r2 (n_16 (n_fq (fk_sub (K := 203) (fk_mono (fk_sub (K := 201) (fk_mono (fk_sub (K := 199) (fk_mono (hrr _) (by decide)) (fk_mono (fk_mul ((lev_k (q_k (rnd_ok _)) (lev_k (q_k (rnd_ok _)) (lev_k (q_k (rnd_ok _)) b_0 (by decide) (by decide)) (by decide) (by decide)) (by decide) (by decide)) 1 (by decide) (by decide)) (hrr _) (by decide) (by decide)) (by decide)) (by decide)) (by decide)) (fk_mono (fk_mul ((lev_k (q_k (rnd_ok _)) (lev_k (q_k (rnd_ok _)) (lev_k (q_k (rnd_ok _)) b_0 (by decide) (by decide)) (by decide) (by decide)) (by decide) (by decide)) 2 (by decide) (by decide)) (hrr _) (by decide) (by decide)) (by decide)) (by decide)) (by decide)) (fk_mono (fk_mul ((lev_k (q_k (rnd_ok _)) (lev_k (q_k (rnd_ok _)) (lev_k (q_k (rnd_ok _)) b_0 (by decide) (by decide)) (by decide) (by decide)) (by decide) (by decide)) 3 (by decide) (by decide)) (hrr _) (by decide) (by decide)) (by decide)) (by decide)) (fk_mul (fk_mul (fk_mul (hrr _) (fk_sub (K := 128) (fk_mono (show fk 128 FP.fconst1 by unfold fk; decide) (by decide)) (fk_mono (fk_mul (q_k (rnd_ok _)) (q_k (rnd_ok _)) (by decide) (by decide)) (by decide)) (by decide)) (by decide) (by decide)) (fk_sub (K := 128) (fk_mono (show fk 128 FP.fconst1 by unfold fk; decide) (by decide)) (fk_mono (fk_mul (q_k (rnd_ok _)) (q_k (rnd_ok _)) (by decide) (by decide)) (by decide)) (by decide)) (by decide) (by decide)) (fk_sub (K := 128) (fk_mono (show fk 128 FP.fconst1 by unfold fk; decide) (by decide)) (fk_mono (fk_mul (q_k (rnd_ok _)) (q_k (rnd_ok _)) (by decide) (by decide)) (by decide)) (by decide)) (by decide) (by decide)) (by decide) (by decide))))) ⟨va_cnB 3 ht (g_C kc_VF_rounded) rfl rfl rfl (hmb.1 _ (List.mem_of_getElem? (i := 8) rfl)) (ht _ kI_VF) (by decide +kernel) ⟨Nat.le_of_ble_eq_true rfl, Nat.le_of_ble_eq_true rfl⟩, ht _ ks_VF_rounded, trivial⟩ (cPre_S hK hmb (hP.sub (ws' := []) [] rfl) (hD.sub (ws' := []) [] (by decide) rfl)) rfl rfl hl.1 rfl (lv_room (Nat.le_of_ble_eq_true rfl)) dCod_chooseCodes_80 ⟨Nat.le_of_ble_eq_true rfl, Nat.le_of_ble_eq_true rfl⟩) (fun r45 u46 H locs w47 hP hD hS => ?_)
  subst w47
  have hP : va_P D vwCl [(h0, .inr (1, [.ref v0, .ref p0, .int np, .ref k0])), (k0, .inl (cF, 5, .inr (.inr (.inl rr)))), (p0, .inr (3, [.int pl, .int pg, .ref p1, .ref p2, .ref p3])), (p1, .inl (cI, 5, .inl (upd (upd (upd kc 1 (cK1 rr)) 2 (cK2 ww rr)) 3 (cK3 ww rr)))), (p2, .inl (cF, 5, .inr (.inr (.inl (f_lev 3 (f_lev 2 (f_lev 1 ww (f_q (cK1 rr))) (f_q (cK2 ww rr))) (f_q (cK3 ww rr)))))))] H := hP
  have hD : va_D A [(h0, .inr (1, [.ref v0, .ref p0, .int np, .ref k0])), (k0, .inl (cF, 5, .inr (.inr (.inl rr)))), (p0, .inr (3, [.int pl, .int pg, .ref p1, .ref p2, .ref p3])), (p1, .inl (cI, 5, .inl (upd (upd (upd kc 1 (cK1 rr)) 2 (cK2 ww rr)) 3 (cK3 ww rr)))), (p2, .inl (cF, 5, .inr (.inr (.inl (f_lev 3 (f_lev 2 (f_lev 1 ww (f_q (cK1 rr))) (f_q (cK2 ww rr))) (f_q (cK3 ww rr)))))))] := hD
  refine W.eq (g2 := F0 m 83 ls [.int (cK4 ww rr), .int 4, .ref p0]) rfl ?_
  refine q_f (wc := [(p0, .inr (3, [.int pl, .int pg, .ref p1, .ref p2, .ref p3])), (p1, .inl (cI, 5, .inl (upd (upd (upd kc 1 (cK1 rr)) 2 (cK2 ww rr)) 3 (cK3 ww rr)))), (p2, .inl (cF, 5, .inr (.inr (.inl (f_lev 3 (f_lev 2 (f_lev 1 ww (f_q (cK1 rr))) (f_q (cK2 ww rr))) (f_q (cK3 ww rr)))))))]) (wr := [(h0, .inr (1, [.ref v0, .ref p0, .int np, .ref k0])), (k0, .inl (cF, 5, .inr (.inr (.inl rr))))]) [2, 3, 4] [0, 1] hK hP hD hS hA rfl rfl (by decide) (by decide) (va_runV (As := [.int 4, .int (cK4 ww rr)]) (rest := []) ⟨hx, hb, hml, hown, ht⟩ (c_Pac_takeCode_4 l D cF cI H.size p0 p1 p2 p3 pl pg (upd (upd (upd kc 1 (cK1 rr)) 2 (cK2 ww rr)) 3 (cK3 ww rr)) (f_lev 3 (f_lev 2 (f_lev 1 ww (f_q (cK1 rr))) (f_q (cK2 ww rr))) (f_q (cK3 ww rr))) (cK4 ww rr) (rnd_ok _) (lev_k (q_k (rnd_ok _)) (lev_k (q_k (rnd_ok _)) (lev_k (q_k (rnd_ok _)) b_0 (by decide) (by decide)) (by decide) (by decide)) (by decide) (by decide))) (cwV 2 ht (g_V km_Cod_83 ki_Pac_takeCode kv_Pac_takeCode kI_Pac kc_Pac_takeCode) rfl rfl rfl (by decide +kernel) ⟨Nat.le_of_ble_eq_true rfl, Nat.le_of_ble_eq_true rfl⟩) (cPre_V (ci := 3) (q0 := 0) hK hmb (hP.sub (ws' := [(p0, .inr (3, [.int pl, .int pg, .ref p1, .ref p2, .ref p3])), (p1, .inl (cI, 5, .inl (upd (upd (upd kc 1 (cK1 rr)) 2 (cK2 ww rr)) 3 (cK3 ww rr)))), (p2, .inl (cF, 5, .inr (.inr (.inl (f_lev 3 (f_lev 2 (f_lev 1 ww (f_q (cK1 rr))) (f_q (cK2 ww rr))) (f_q (cK3 ww rr)))))))]) [2, 3, 4] rfl) (hD.sub (ws' := [(p0, .inr (3, [.int pl, .int pg, .ref p1, .ref p2, .ref p3])), (p1, .inl (cI, 5, .inl (upd (upd (upd kc 1 (cK1 rr)) 2 (cK2 ww rr)) 3 (cK3 ww rr)))), (p2, .inl (cF, 5, .inr (.inr (.inl (f_lev 3 (f_lev 2 (f_lev 1 ww (f_q (cK1 rr))) (f_q (cK2 ww rr))) (f_q (cK3 ww rr)))))))]) [2, 3, 4] (by decide) rfl) rfl rfl) rfl rfl hl.1 rfl (lv_room (Nat.le_of_ble_eq_true rfl)) dCod_chooseCodes_83 ⟨Nat.le_of_ble_eq_true rfl, Nat.le_of_ble_eq_true rfl⟩) (fun r48 u49 H locs w50 hP hD hS => ?_)
  subst w50
  have hP : va_P D vwCl [(h0, .inr (1, [.ref v0, .ref p0, .int np, .ref k0])), (k0, .inl (cF, 5, .inr (.inr (.inl rr)))), (p0, .inr (3, [.int pl, .int pg, .ref p1, .ref p2, .ref p3])), (p1, .inl (cI, 5, .inl (upd (upd (upd (upd kc 1 (cK1 rr)) 2 (cK2 ww rr)) 3 (cK3 ww rr)) 4 (cK4 ww rr)))), (p2, .inl (cF, 5, .inr (.inr (.inl (f_lev 4 (f_lev 3 (f_lev 2 (f_lev 1 ww (f_q (cK1 rr))) (f_q (cK2 ww rr))) (f_q (cK3 ww rr))) (f_q (cK4 ww rr)))))))] H := hP
  have hD : va_D A [(h0, .inr (1, [.ref v0, .ref p0, .int np, .ref k0])), (k0, .inl (cF, 5, .inr (.inr (.inl rr)))), (p0, .inr (3, [.int pl, .int pg, .ref p1, .ref p2, .ref p3])), (p1, .inl (cI, 5, .inl (upd (upd (upd (upd kc 1 (cK1 rr)) 2 (cK2 ww rr)) 3 (cK3 ww rr)) 4 (cK4 ww rr)))), (p2, .inl (cF, 5, .inr (.inr (.inl (f_lev 4 (f_lev 3 (f_lev 2 (f_lev 1 ww (f_q (cK1 rr))) (f_q (cK2 ww rr))) (f_q (cK3 ww rr))) (f_q (cK4 ww rr)))))))] := hD
  refine lv_fstore (lv' := [(5, .float (f_q (cK4 ww rr))), (4, .float (f_quo (FP.fsub (FP.fsub (FP.fsub (rr 4) (FP.fmul ((f_lev 3 (f_lev 2 (f_lev 1 ww (f_q (cK1 rr))) (f_q (cK2 ww rr))) (f_q (cK3 ww rr))) 1) (rr 3))) (FP.fmul ((f_lev 3 (f_lev 2 (f_lev 1 ww (f_q (cK1 rr))) (f_q (cK2 ww rr))) (f_q (cK3 ww rr))) 2) (rr 2))) (FP.fmul ((f_lev 3 (f_lev 2 (f_lev 1 ww (f_q (cK1 rr))) (f_q (cK2 ww rr))) (f_q (cK3 ww rr))) 3) (rr 1))) (FP.fmul (FP.fmul (FP.fmul (rr 0) (FP.fsub FP.fconst1 (FP.fmul (f_q (cK1 rr)) (f_q (cK1 rr))))) (FP.fsub FP.fconst1 (FP.fmul (f_q (cK2 ww rr)) (f_q (cK2 ww rr))))) (FP.fsub FP.fconst1 (FP.fmul (f_q (cK3 ww rr)) (f_q (cK3 ww rr))))))), (3, .float (FP.fsub (FP.fsub (FP.fsub (rr 4) (FP.fmul ((f_lev 3 (f_lev 2 (f_lev 1 ww (f_q (cK1 rr))) (f_q (cK2 ww rr))) (f_q (cK3 ww rr))) 1) (rr 3))) (FP.fmul ((f_lev 3 (f_lev 2 (f_lev 1 ww (f_q (cK1 rr))) (f_q (cK2 ww rr))) (f_q (cK3 ww rr))) 2) (rr 2))) (FP.fmul ((f_lev 3 (f_lev 2 (f_lev 1 ww (f_q (cK1 rr))) (f_q (cK2 ww rr))) (f_q (cK3 ww rr))) 3) (rr 1)))), (2, .int 4), (1, .float (FP.fmul (FP.fmul (FP.fmul (rr 0) (FP.fsub FP.fconst1 (FP.fmul (f_q (cK1 rr)) (f_q (cK1 rr))))) (FP.fsub FP.fconst1 (FP.fmul (f_q (cK2 ww rr)) (f_q (cK2 ww rr))))) (FP.fsub FP.fconst1 (FP.fmul (f_q (cK3 ww rr)) (f_q (cK3 ww rr)))))), (0, .ref h0)]) hx hb dCod_chooseCodes_86 hl (by decide) rfl (fun ls hl => ?_)
  refine lv_fload_n hx hb dCod_chooseCodes_88 rfl (lv_at hl 4 rfl) ?_
  refine lv_fconst1 hx hb dCod_chooseCodes_89 ?_
  refine lv_fload hx hb dCod_chooseCodes_90 (lv_at hl 0 rfl) ?_
  refine lv_fload hx hb dCod_chooseCodes_92 (lv_at hl 0 rfl) ?_
  refine lv_fmul hx hb dCod_chooseCodes_94 (fk_n (fk_mul (q_k (rnd_ok _)) (q_k (rnd_ok _)) (by decide) (by decide)) (by decide)) ?_
  refine lv_fsub hx hb dCod_chooseCodes_95 (fk_n (fk_sub (K := 128) (fk_mono (show fk 128 FP.fconst1 by unfold fk; decide) (by decide)) (fk_mono (fk_mul (q_k (rnd_ok _)) (q_k (rnd_ok _)) (by decide) (by decide)) (by decide)) (by decide)) (by decide)) ?_
  refine lv_fmul hx hb dCod_chooseCodes_96 (fk_n (fk_mul (fk_mul (fk_mul (fk_mul (hrr _) (fk_sub (K := 128) (fk_mono (show fk 128 FP.fconst1 by unfold fk; decide) (by decide)) (fk_mono (fk_mul (q_k (rnd_ok _)) (q_k (rnd_ok _)) (by decide) (by decide)) (by decide)) (by decide)) (by decide) (by decide)) (fk_sub (K := 128) (fk_mono (show fk 128 FP.fconst1 by unfold fk; decide) (by decide)) (fk_mono (fk_mul (q_k (rnd_ok _)) (q_k (rnd_ok _)) (by decide) (by decide)) (by decide)) (by decide)) (by decide) (by decide)) (fk_sub (K := 128) (fk_mono (show fk 128 FP.fconst1 by unfold fk; decide) (by decide)) (fk_mono (fk_mul (q_k (rnd_ok _)) (q_k (rnd_ok _)) (by decide) (by decide)) (by decide)) (by decide)) (by decide) (by decide)) (fk_sub (K := 128) (fk_mono (show fk 128 FP.fconst1 by unfold fk; decide) (by decide)) (fk_mono (fk_mul (q_k (rnd_ok _)) (q_k (rnd_ok _)) (by decide) (by decide)) (by decide)) (by decide)) (by decide) (by decide)) (by decide)) ?_
  refine lv_fstore_n (lv' := [(1, .float (FP.fmul (FP.fmul (FP.fmul (FP.fmul (rr 0) (FP.fsub FP.fconst1 (FP.fmul (f_q (cK1 rr)) (f_q (cK1 rr))))) (FP.fsub FP.fconst1 (FP.fmul (f_q (cK2 ww rr)) (f_q (cK2 ww rr))))) (FP.fsub FP.fconst1 (FP.fmul (f_q (cK3 ww rr)) (f_q (cK3 ww rr))))) (FP.fsub FP.fconst1 (FP.fmul (f_q (cK4 ww rr)) (f_q (cK4 ww rr)))))), (5, .float (f_q (cK4 ww rr))), (4, .float (f_quo (FP.fsub (FP.fsub (FP.fsub (rr 4) (FP.fmul ((f_lev 3 (f_lev 2 (f_lev 1 ww (f_q (cK1 rr))) (f_q (cK2 ww rr))) (f_q (cK3 ww rr))) 1) (rr 3))) (FP.fmul ((f_lev 3 (f_lev 2 (f_lev 1 ww (f_q (cK1 rr))) (f_q (cK2 ww rr))) (f_q (cK3 ww rr))) 2) (rr 2))) (FP.fmul ((f_lev 3 (f_lev 2 (f_lev 1 ww (f_q (cK1 rr))) (f_q (cK2 ww rr))) (f_q (cK3 ww rr))) 3) (rr 1))) (FP.fmul (FP.fmul (FP.fmul (rr 0) (FP.fsub FP.fconst1 (FP.fmul (f_q (cK1 rr)) (f_q (cK1 rr))))) (FP.fsub FP.fconst1 (FP.fmul (f_q (cK2 ww rr)) (f_q (cK2 ww rr))))) (FP.fsub FP.fconst1 (FP.fmul (f_q (cK3 ww rr)) (f_q (cK3 ww rr))))))), (3, .float (FP.fsub (FP.fsub (FP.fsub (rr 4) (FP.fmul ((f_lev 3 (f_lev 2 (f_lev 1 ww (f_q (cK1 rr))) (f_q (cK2 ww rr))) (f_q (cK3 ww rr))) 1) (rr 3))) (FP.fmul ((f_lev 3 (f_lev 2 (f_lev 1 ww (f_q (cK1 rr))) (f_q (cK2 ww rr))) (f_q (cK3 ww rr))) 2) (rr 2))) (FP.fmul ((f_lev 3 (f_lev 2 (f_lev 1 ww (f_q (cK1 rr))) (f_q (cK2 ww rr))) (f_q (cK3 ww rr))) 3) (rr 1)))), (2, .int 4), (0, .ref h0)]) hx hb dCod_chooseCodes_97 rfl hl (by decide) rfl (fun ls hl => ?_)
  refine lv_iinc (v := 5) (lv' := [(2, .int 5), (1, .float (FP.fmul (FP.fmul (FP.fmul (FP.fmul (rr 0) (FP.fsub FP.fconst1 (FP.fmul (f_q (cK1 rr)) (f_q (cK1 rr))))) (FP.fsub FP.fconst1 (FP.fmul (f_q (cK2 ww rr)) (f_q (cK2 ww rr))))) (FP.fsub FP.fconst1 (FP.fmul (f_q (cK3 ww rr)) (f_q (cK3 ww rr))))) (FP.fsub FP.fconst1 (FP.fmul (f_q (cK4 ww rr)) (f_q (cK4 ww rr)))))), (5, .float (f_q (cK4 ww rr))), (4, .float (f_quo (FP.fsub (FP.fsub (FP.fsub (rr 4) (FP.fmul ((f_lev 3 (f_lev 2 (f_lev 1 ww (f_q (cK1 rr))) (f_q (cK2 ww rr))) (f_q (cK3 ww rr))) 1) (rr 3))) (FP.fmul ((f_lev 3 (f_lev 2 (f_lev 1 ww (f_q (cK1 rr))) (f_q (cK2 ww rr))) (f_q (cK3 ww rr))) 2) (rr 2))) (FP.fmul ((f_lev 3 (f_lev 2 (f_lev 1 ww (f_q (cK1 rr))) (f_q (cK2 ww rr))) (f_q (cK3 ww rr))) 3) (rr 1))) (FP.fmul (FP.fmul (FP.fmul (rr 0) (FP.fsub FP.fconst1 (FP.fmul (f_q (cK1 rr)) (f_q (cK1 rr))))) (FP.fsub FP.fconst1 (FP.fmul (f_q (cK2 ww rr)) (f_q (cK2 ww rr))))) (FP.fsub FP.fconst1 (FP.fmul (f_q (cK3 ww rr)) (f_q (cK3 ww rr))))))), (3, .float (FP.fsub (FP.fsub (FP.fsub (rr 4) (FP.fmul ((f_lev 3 (f_lev 2 (f_lev 1 ww (f_q (cK1 rr))) (f_q (cK2 ww rr))) (f_q (cK3 ww rr))) 1) (rr 3))) (FP.fmul ((f_lev 3 (f_lev 2 (f_lev 1 ww (f_q (cK1 rr))) (f_q (cK2 ww rr))) (f_q (cK3 ww rr))) 2) (rr 2))) (FP.fmul ((f_lev 3 (f_lev 2 (f_lev 1 ww (f_q (cK1 rr))) (f_q (cK2 ww rr))) (f_q (cK3 ww rr))) 3) (rr 1)))), (0, .ref h0)]) hx hb dCod_chooseCodes_98 hl (k := 4) rfl (by decide) (by decide) rfl (fun ls hl => ?_)
  refine lv_goto (tgt := 9) hx hb dCod_chooseCodes_101 (by decide) ?_
  refine lv_iload_n hx hb dCod_chooseCodes_9 rfl (lv_at hl 0 rfl) ?_
  refine lv_iconst (v := 4) hx hb dCod_chooseCodes_10 (by decide) ?_
  refine lv_icmp_gt (tgt := 104) hx hb dCod_chooseCodes_11 (by decide) (fun _ => ?_) (fun c9 => absurd (by decide) c9)
  have hP := hP.sub (ws' := [(h0, .inr (1, [.ref v0, .ref p0, .int np, .ref k0])), (p0, .inr (3, [.int pl, .int pg, .ref p1, .ref p2, .ref p3])), (p1, .inl (cI, 5, .inl (upd (upd (upd (upd kc 1 (cK1 rr)) 2 (cK2 ww rr)) 3 (cK3 ww rr)) 4 (cK4 ww rr)))), (p2, .inl (cF, 5, .inr (.inr (.inl (f_lev 4 (f_lev 3 (f_lev 2 (f_lev 1 ww (f_q (cK1 rr))) (f_q (cK2 ww rr))) (f_q (cK3 ww rr))) (f_q (cK4 ww rr))))))), (k0, .inl (cF, 5, .inr (.inr (.inl rr))))]) [0, 2, 3, 4, 1] rfl
  have hD := hD.sub (ws' := [(h0, .inr (1, [.ref v0, .ref p0, .int np, .ref k0])), (p0, .inr (3, [.int pl, .int pg, .ref p1, .ref p2, .ref p3])), (p1, .inl (cI, 5, .inl (upd (upd (upd (upd kc 1 (cK1 rr)) 2 (cK2 ww rr)) 3 (cK3 ww rr)) 4 (cK4 ww rr)))), (p2, .inl (cF, 5, .inr (.inr (.inl (f_lev 4 (f_lev 3 (f_lev 2 (f_lev 1 ww (f_q (cK1 rr))) (f_q (cK2 ww rr))) (f_q (cK3 ww rr))) (f_q (cK4 ww rr))))))), (k0, .inl (cF, 5, .inr (.inr (.inl rr))))]) [0, 2, 3, 4, 1] (by decide) rfl
  exact e_v () hx hb hr hlk hK hP hD hS rfl trivial dCod_chooseCodes_104

set_option maxHeartbeats 4000000 in
set_option maxRecDepth 100000 in
theorem c_Cod_greatestRest (l : Launch) (D : va_G) (cF cI : ClassId) (sz : Nat) (h0 v0 p0 k0 p1 p2 p3 x0 : Nat) (np : Int32) (pl : Int32) (pg : Int32) (ww : Nat → UInt32) (xx : Nat → UInt32) (hw : ∀ j, fk 136 (ww j)) (hx9 : ∀ j, fk 143 (xx j)) : Met l yCod_greatestRest (.code yCod_greatestRest cCod_greatestRest 6 (some .float) :: TB) ({ frames := 1, cells := 0, slots := 0, locals := 21 }) (va_Pc [.ref h0, .ref x0] (cPre D cF cI [(h0, .inr (1, [.ref v0, .ref p0, .int np, .ref k0])), (p0, .inr (3, [.int pl, .int pg, .ref p1, .ref p2, .ref p3])), (p2, .inl (cF, 5, .inr (.inr (.inl ww)))), (x0, .inl (cF, 48, .inr (.inr (.inl xx))))] sz)) (va_Qf (fun (r : UInt32) (_ : Unit) => r = f_rest ww xx 16) (cB D cF cI (va_A [(h0, .inr (1, [.ref v0, .ref p0, .int np, .ref k0])), (p0, .inr (3, [.int pl, .int pg, .ref p1, .ref p2, .ref p3])), (p2, .inl (cF, 5, .inr (.inr (.inl ww)))), (x0, .inl (cF, 48, .inr (.inr (.inl xx))))] sz) (fun _ : Unit => [(h0, .inr (1, [.ref v0, .ref p0, .int np, .ref k0])), (p0, .inr (3, [.int pl, .int pg, .ref p1, .ref p2, .ref p3])), (p2, .inl (cF, 5, .inr (.inr (.inl ww)))), (x0, .inl (cF, 48, .inr (.inr (.inl xx))))])) (va_A [(h0, .inr (1, [.ref v0, .ref p0, .int np, .ref k0])), (p0, .inr (3, [.int pl, .int pg, .ref p1, .ref p2, .ref p3])), (p2, .inl (cF, 5, .inr (.inr (.inl ww)))), (x0, .inl (cF, 48, .inr (.inr (.inl xx))))] sz)) 0 0 (va_A [(h0, .inr (1, [.ref v0, .ref p0, .int np, .ref k0])), (p0, .inr (3, [.int pl, .int pg, .ref p1, .ref p2, .ref p3])), (p2, .inl (cF, 5, .inr (.inr (.inl ww)))), (x0, .inl (cF, 48, .inr (.inr (.inl xx))))] sz) := by
  refine c_ofW (own := RCod) (by decide) rfl (fun p e s m below meth c hsz hx hb hr hml hown ht hlk hin hP hK hD hmb => ?_)
  subst hsz
  generalize hAe : va_A [(h0, .inr (1, [.ref v0, .ref p0, .int np, .ref k0])), (p0, .inr (3, [.int pl, .int pg, .ref p1, .ref p2, .ref p3])), (p2, .inl (cF, 5, .inr (.inr (.inl ww)))), (x0, .inl (cF, 48, .inr (.inr (.inl xx))))] s.heap.size = A at hD ⊢
  have hA : ∀ q : Nat, s.heap.size ≤ q → A q := fun q h => by rw [← hAe]; exact Or.inr h
  have hS : va_S A s.heap s.heap [] := va_S.rf
  have hl := lv_entry ([.ref h0, .ref x0]) (n := 6) (Nat.le_of_ble_eq_true rfl)
  rw [lg_entry_eq]
  generalize (lg_sl ([.ref h0, .ref x0]) ++ List.replicate (6 - (lg_sl ([.ref h0, .ref x0])).length) Slot.unset).toArray = ls at hl ⊢
  have hl : lv_has ls 6 [(0, .ref h0), (1, .ref x0)] := hl
  refine lv_fconst0 hx hb dCod_greatestRest_0 ?_
  refine lv_fstore_n (lv' := [(2, .float FP.fconst0), (0, .ref h0), (1, .ref x0)]) hx hb dCod_greatestRest_1 rfl hl (by decide) rfl (fun ls hl => ?_)
  refine lv_iconst (v := 0) hx hb dCod_greatestRest_2 (by decide) ?_
  refine lv_istore_n (lv' := [(3, .int 0), (2, .float FP.fconst0), (0, .ref h0), (1, .ref x0)]) hx hb dCod_greatestRest_3 rfl hl (by decide) rfl (fun ls hl => ?_)
  have loop : ∀ (n i : Nat), i + n = 16 → ∀ (H : Heap) (locs : List Loc), va_P D vwCl [(h0, .inr (1, [.ref v0, .ref p0, .int np, .ref k0])), (p0, .inr (3, [.int pl, .int pg, .ref p1, .ref p2, .ref p3])), (p2, .inl (cF, 5, .inr (.inr (.inl ww)))), (x0, .inl (cF, 48, .inr (.inr (.inl xx))))] H → va_D A [(h0, .inr (1, [.ref v0, .ref p0, .int np, .ref k0])), (p0, .inr (3, [.int pl, .int pg, .ref p1, .ref p2, .ref p3])), (p2, .inl (cF, 5, .inr (.inr (.inl ww)))), (x0, .inl (cF, 48, .inr (.inr (.inl xx))))] → va_S A s.heap H locs → ∀ (ls : Array Slot), lv_has ls 6 [(2, .float (f_rest ww xx i)), (3, .int (nI i)), (1, .ref x0), (0, .ref h0)] → W p l e ({ frames := 1, cells := 0, slots := 0, locals := 21 } : Room) s m ([.ref h0, .ref x0] : List Value).toArray below meth c H locs 0 0 (MQ below (va_Qf (fun (r : UInt32) (_ : Unit) => r = f_rest ww xx 16) (cB D cF cI A (fun _ : Unit => [(h0, .inr (1, [.ref v0, .ref p0, .int np, .ref k0])), (p0, .inr (3, [.int pl, .int pg, .ref p1, .ref p2, .ref p3])), (p2, .inl (cF, 5, .inr (.inr (.inl ww)))), (x0, .inl (cF, 48, .inr (.inr (.inl xx))))])) A) ([.ref h0, .ref x0] : List Value).toArray s 0 0 A) (F0 m 4 ls []) := by
    intro n
    induction n with
    | zero =>
      intro i hi H locs hP hD hS ls hl
      obtain rfl : 16 = i := by omega
      refine lv_iload_n hx hb dCod_greatestRest_4 rfl (lv_at hl 1 rfl) ?_
      refine lv_bipush (v := 16) hx hb dCod_greatestRest_5 (by decide) ?_
      refine lv_icmp_ge (tgt := 76) hx hb dCod_greatestRest_7 (by decide) (fun c1 => ?_) (fun c1 => ?_)
      · refine lv_fload_n hx hb dCod_greatestRest_76 rfl (lv_at hl 0 rfl) ?_
        have hP := hP.sub (ws' := [(h0, .inr (1, [.ref v0, .ref p0, .int np, .ref k0])), (p0, .inr (3, [.int pl, .int pg, .ref p1, .ref p2, .ref p3])), (p2, .inl (cF, 5, .inr (.inr (.inl ww)))), (x0, .inl (cF, 48, .inr (.inr (.inl xx))))]) [0, 1, 2, 3] rfl
        have hD := hD.sub (ws' := [(h0, .inr (1, [.ref v0, .ref p0, .int np, .ref k0])), (p0, .inr (3, [.int pl, .int pg, .ref p1, .ref p2, .ref p3])), (p2, .inl (cF, 5, .inr (.inr (.inl ww)))), (x0, .inl (cF, 48, .inr (.inr (.inl xx))))]) [0, 1, 2, 3] (by decide) rfl
        exact e_f () hx hb hr hlk hK hP hD hS rfl rfl dCod_greatestRest_77
      · exact absurd (by decide) c1
    | succ n ih =>
      intro i hi H locs hP hD hS ls hl
      have hi1 : i < 16 := by omega
      refine lv_iload_n hx hb dCod_greatestRest_4 rfl (lv_at hl 1 rfl) ?_
      refine lv_bipush (v := 16) hx hb dCod_greatestRest_5 (by decide) ?_
      refine lv_icmp_ge (tgt := 76) hx hb dCod_greatestRest_7 (by decide) (fun c2 => ?_) (fun c2 => ?_)
      · exact absurd c2 (lt_up (N := 16) (by decide) hi1 (by decide))
      · refine lv_fconst0 hx hb dCod_greatestRest_10 ?_
        refine lv_fstore (lv' := [(4, .float FP.fconst0), (2, .float (f_rest ww xx i)), (3, .int (nI i)), (1, .ref x0), (0, .ref h0)]) hx hb dCod_greatestRest_11 hl (by decide) rfl (fun ls hl => ?_)
        refine lv_iconst (v := 1) hx hb dCod_greatestRest_13 (by decide) ?_
        refine lv_istore (lv' := [(5, .int 1), (4, .float FP.fconst0), (2, .float (f_rest ww xx i)), (3, .int (nI i)), (1, .ref x0), (0, .ref h0)]) hx hb dCod_greatestRest_14 hl (by decide) rfl (fun ls hl => ?_)
        refine lv_iload hx hb dCod_greatestRest_16 (lv_at hl 0 rfl) ?_
        refine lv_iconst (v := 4) hx hb dCod_greatestRest_18 (by decide) ?_
        refine lv_icmp_gt (tgt := 56) hx hb dCod_greatestRest_19 (by decide) (fun c9 => absurd c9 (by decide)) (fun _ => ?_)
        refine lv_iload hx hb dCod_greatestRest_22 (lv_at hl 0 rfl) ?_
        refine lv_iload_n hx hb dCod_greatestRest_24 rfl (lv_at hl 3 rfl) ?_
        refine lv_icmp_gt (tgt := 56) hx hb dCod_greatestRest_25 (by decide) (fun c4 => ?_) (fun c4 => ?_)
        · refine lv_fload_n hx hb dCod_greatestRest_56 rfl (lv_at hl 2 rfl) ?_
          refine lv_aload_n hx hb dCod_greatestRest_57 rfl (lv_at hl 4 rfl) ?_
          refine lv_iload_n hx hb dCod_greatestRest_58 rfl (lv_at hl 3 rfl) ?_
          refine k_fald (j := i) hx hb hK hP 3 0 rfl rfl (vp_in_nI (by omega) (by decide)) (nI_clamp (by omega)) dCod_greatestRest_59 ?_
          refine lv_fload hx hb dCod_greatestRest_60 (lv_at hl 1 rfl) ?_
          refine lv_fsub hx hb dCod_greatestRest_62 (fk_n (fk_sub (K := 143) (fk_mono (hx9 _) (by decide)) (fk_mono (show fk 1 FP.fconst0 by unfold fk; decide) (by decide)) (by decide)) (by decide)) ?_
          rw [show FP.fsub (xx i) FP.fconst0 = FP.fsub (xx i) (f_rp ww xx i) from (by unfold f_rp; rw [if_pos c4])]
          refine q_f (wc := []) (wr := [(h0, .inr (1, [.ref v0, .ref p0, .int np, .ref k0])), (p0, .inr (3, [.int pl, .int pg, .ref p1, .ref p2, .ref p3])), (p2, .inl (cF, 5, .inr (.inr (.inl ww)))), (x0, .inl (cF, 48, .inr (.inr (.inl xx))))]) [] [0, 1, 2, 3] hK hP hD hS hA rfl rfl (by decide) (by decide) (va_runSN (As := [.float (FP.fsub (xx i) (f_rp ww xx i))]) (rest := [.float (f_rest ww xx i)]) ⟨hx, hb, hml, hown, ht⟩ (c_VF_unsigned l D cF cI H.size (FP.fsub (xx i) (f_rp ww xx i))) ⟨va_cnB 1 ht (g_C kc_VF_unsigned) rfl rfl rfl (hmb.1 _ (List.mem_of_getElem? (i := 9) rfl)) (ht _ kI_VF) (by decide +kernel) ⟨Nat.le_of_ble_eq_true rfl, Nat.le_of_ble_eq_true rfl⟩, ht _ ks_VF_unsigned, trivial⟩ (cPre_S hK hmb (hP.sub (ws' := []) [] rfl) (hD.sub (ws' := []) [] (by decide) rfl)) rfl rfl hl.1 rfl (lv_room (Nat.le_of_ble_eq_true rfl)) dCod_greatestRest_63 ⟨Nat.le_of_ble_eq_true rfl, Nat.le_of_ble_eq_true rfl⟩) (fun r5 u6 H locs w7 hP hD hS => ?_)
          subst w7
          have hP : va_P D vwCl [(h0, .inr (1, [.ref v0, .ref p0, .int np, .ref k0])), (p0, .inr (3, [.int pl, .int pg, .ref p1, .ref p2, .ref p3])), (p2, .inl (cF, 5, .inr (.inr (.inl ww)))), (x0, .inl (cF, 48, .inr (.inr (.inl xx))))] H := hP
          have hD : va_D A [(h0, .inr (1, [.ref v0, .ref p0, .int np, .ref k0])), (p0, .inr (3, [.int pl, .int pg, .ref p1, .ref p2, .ref p3])), (p2, .inl (cF, 5, .inr (.inr (.inl ww)))), (x0, .inl (cF, 48, .inr (.inr (.inl xx))))] := hD
          refine q_f (wc := []) (wr := [(h0, .inr (1, [.ref v0, .ref p0, .int np, .ref k0])), (p0, .inr (3, [.int pl, .int pg, .ref p1, .ref p2, .ref p3])), (p2, .inl (cF, 5, .inr (.inr (.inl ww)))), (x0, .inl (cF, 48, .inr (.inr (.inl xx))))]) [] [0, 1, 2, 3] hK hP hD hS hA rfl rfl (by decide) (by decide) (va_runSN (As := [.float (f_rest ww xx i), .float (f_uns (FP.fsub (xx i) (f_rp ww xx i)))]) (rest := []) ⟨hx, hb, hml, hown, ht⟩ (c_VF_greater l D cF cI H.size (f_rest ww xx i) (f_uns (FP.fsub (xx i) (f_rp ww xx i)))) ⟨va_cnB 2 ht (g_C kc_VF_greater) rfl rfl rfl (hmb.1 _ (List.mem_of_getElem? (i := 10) rfl)) (ht _ kI_VF) (by decide +kernel) ⟨Nat.le_of_ble_eq_true rfl, Nat.le_of_ble_eq_true rfl⟩, ht _ ks_VF_greater, trivial⟩ (cPre_S hK hmb (hP.sub (ws' := []) [] rfl) (hD.sub (ws' := []) [] (by decide) rfl)) rfl rfl hl.1 rfl (lv_room (Nat.le_of_ble_eq_true rfl)) dCod_greatestRest_66 ⟨Nat.le_of_ble_eq_true rfl, Nat.le_of_ble_eq_true rfl⟩) (fun r8 u9 H locs w10 hP hD hS => ?_)
          subst w10
          have hP : va_P D vwCl [(h0, .inr (1, [.ref v0, .ref p0, .int np, .ref k0])), (p0, .inr (3, [.int pl, .int pg, .ref p1, .ref p2, .ref p3])), (p2, .inl (cF, 5, .inr (.inr (.inl ww)))), (x0, .inl (cF, 48, .inr (.inr (.inl xx))))] H := hP
          have hD : va_D A [(h0, .inr (1, [.ref v0, .ref p0, .int np, .ref k0])), (p0, .inr (3, [.int pl, .int pg, .ref p1, .ref p2, .ref p3])), (p2, .inl (cF, 5, .inr (.inr (.inl ww)))), (x0, .inl (cF, 48, .inr (.inr (.inl xx))))] := hD
          refine W.eq (g2 := F0 m 69 ls [.float (f_rest ww xx (i + 1))]) rfl ?_
          refine lv_fstore_n (lv' := [(2, .float (f_rest ww xx (i + 1))), (5, .int 1), (4, .float FP.fconst0), (3, .int (nI i)), (1, .ref x0), (0, .ref h0)]) hx hb dCod_greatestRest_69 rfl hl (by decide) rfl (fun ls hl => ?_)
          refine lv_iinc (v := nI (i + 1)) (lv' := [(3, .int (nI (i + 1))), (2, .float (f_rest ww xx (i + 1))), (5, .int 1), (4, .float FP.fconst0), (1, .ref x0), (0, .ref h0)]) hx hb dCod_greatestRest_70 hl (k := 3) rfl (nI_1 i) (by decide) rfl (fun ls hl => ?_)
          refine lv_goto (tgt := 4) hx hb dCod_greatestRest_73 (by decide) ?_
          exact ih (i + 1) (by omega)  _ _ (hP.sub (ws' := [(h0, .inr (1, [.ref v0, .ref p0, .int np, .ref k0])), (p0, .inr (3, [.int pl, .int pg, .ref p1, .ref p2, .ref p3])), (p2, .inl (cF, 5, .inr (.inr (.inl ww)))), (x0, .inl (cF, 48, .inr (.inr (.inl xx))))]) [0, 1, 2, 3] rfl) (hD.sub (ws' := [(h0, .inr (1, [.ref v0, .ref p0, .int np, .ref k0])), (p0, .inr (3, [.int pl, .int pg, .ref p1, .ref p2, .ref p3])), (p2, .inl (cF, 5, .inr (.inr (.inl ww)))), (x0, .inl (cF, 48, .inr (.inr (.inl xx))))]) [0, 1, 2, 3] (by decide) rfl) hS ls (lv_sub hl [1, 0, 4, 5] rfl)
        · have hj1 : 1 ≤ i := nl_of (by decide) c4 (by omega) (by decide)
          refine lv_fload hx hb dCod_greatestRest_28 (lv_at hl 1 rfl) ?_
          refine lv_aload_n hx hb dCod_greatestRest_30 rfl (lv_at hl 5 rfl) ?_
          refine va_get (D := D) (ci := 1) (v := .ref p0) hx hb ht inCod hown hK hP 0 rfl rfl 1 (by decide) (ht _ kf_Cod_21) (fun _ h9 => h9) rfl dCod_greatestRest_31 ?_
          refine va_get (D := D) (ci := 3) (v := .ref p2) hx hb ht inPac hown hK hP 1 rfl rfl 3 (by decide) (ht _ kf_Cod_71) (fun _ h9 => h9) rfl dCod_greatestRest_34 ?_
          refine lv_iload hx hb dCod_greatestRest_37 (lv_at hl 0 rfl) ?_
          refine k_fald (j := 1) hx hb hK hP 2 0 rfl rfl (by unfold vp_in; decide) rfl dCod_greatestRest_39 ?_
          refine lv_aload_n hx hb dCod_greatestRest_40 rfl (lv_at hl 4 rfl) ?_
          refine lv_iload_n hx hb dCod_greatestRest_41 rfl (lv_at hl 3 rfl) ?_
          refine lv_iload hx hb dCod_greatestRest_42 (lv_at hl 0 rfl) ?_
          refine k_isub (v := nI (i - 1)) hx hb dCod_greatestRest_44 (sub_lit (by decide) hj1) ?_
          refine k_fald (j := (i - 1)) hx hb hK hP 3 0 rfl rfl (vp_in_nI (by omega) (by decide)) (nI_clamp (by omega)) dCod_greatestRest_45 ?_
          refine lv_fmul hx hb dCod_greatestRest_46 (fk_n (fk_mul (hw _) (hx9 _) (by decide) (by decide)) (by decide)) ?_
          refine lv_fadd hx hb dCod_greatestRest_47 (fk_n (fk_add (K := 153) (fk_mono (show fk 1 FP.fconst0 by unfold fk; decide) (by decide)) (fk_mono (fk_mul (hw _) (hx9 _) (by decide) (by decide)) (by decide)) (by decide)) (by decide)) ?_
          refine W.eq (g2 := F0 m 48 ls [.float (rq1 ww xx i)]) rfl ?_
          refine lv_fstore (lv' := [(4, .float (rq1 ww xx i)), (5, .int 1), (2, .float (f_rest ww xx i)), (3, .int (nI i)), (1, .ref x0), (0, .ref h0)]) hx hb dCod_greatestRest_48 hl (by decide) rfl (fun ls hl => ?_)
          refine lv_iinc (v := 2) (lv' := [(5, .int 2), (4, .float (rq1 ww xx i)), (2, .float (f_rest ww xx i)), (3, .int (nI i)), (1, .ref x0), (0, .ref h0)]) hx hb dCod_greatestRest_50 hl (k := 1) rfl (by decide) (by decide) rfl (fun ls hl => ?_)
          refine lv_goto (tgt := 16) hx hb dCod_greatestRest_53 (by decide) ?_
          refine lv_iload hx hb dCod_greatestRest_16 (lv_at hl 0 rfl) ?_
          refine lv_iconst (v := 4) hx hb dCod_greatestRest_18 (by decide) ?_
          refine lv_icmp_gt (tgt := 56) hx hb dCod_greatestRest_19 (by decide) (fun c9 => absurd c9 (by decide)) (fun _ => ?_)
          refine lv_iload hx hb dCod_greatestRest_22 (lv_at hl 0 rfl) ?_
          refine lv_iload_n hx hb dCod_greatestRest_24 rfl (lv_at hl 3 rfl) ?_
          refine lv_icmp_gt (tgt := 56) hx hb dCod_greatestRest_25 (by decide) (fun c12 => ?_) (fun c12 => ?_)
          · refine lv_fload_n hx hb dCod_greatestRest_56 rfl (lv_at hl 2 rfl) ?_
            refine lv_aload_n hx hb dCod_greatestRest_57 rfl (lv_at hl 4 rfl) ?_
            refine lv_iload_n hx hb dCod_greatestRest_58 rfl (lv_at hl 3 rfl) ?_
            refine k_fald (j := i) hx hb hK hP 3 0 rfl rfl (vp_in_nI (by omega) (by decide)) (nI_clamp (by omega)) dCod_greatestRest_59 ?_
            refine lv_fload hx hb dCod_greatestRest_60 (lv_at hl 1 rfl) ?_
            refine lv_fsub hx hb dCod_greatestRest_62 (fk_n (fk_sub (K := 155) (fk_mono (hx9 _) (by decide)) (fk_mono (fk_add (K := 153) (fk_mono (show fk 1 FP.fconst0 by unfold fk; decide) (by decide)) (fk_mono (fk_mul (hw _) (hx9 _) (by decide) (by decide)) (by decide)) (by decide)) (by decide)) (by decide)) (by decide)) ?_
            rw [show FP.fsub (xx i) (rq1 ww xx i) = FP.fsub (xx i) (f_rp ww xx i) from (by unfold f_rp; rw [if_neg c4, if_pos c12])]
            refine q_f (wc := []) (wr := [(h0, .inr (1, [.ref v0, .ref p0, .int np, .ref k0])), (p0, .inr (3, [.int pl, .int pg, .ref p1, .ref p2, .ref p3])), (p2, .inl (cF, 5, .inr (.inr (.inl ww)))), (x0, .inl (cF, 48, .inr (.inr (.inl xx))))]) [] [0, 1, 2, 3] hK hP hD hS hA rfl rfl (by decide) (by decide) (va_runSN (As := [.float (FP.fsub (xx i) (f_rp ww xx i))]) (rest := [.float (f_rest ww xx i)]) ⟨hx, hb, hml, hown, ht⟩ (c_VF_unsigned l D cF cI H.size (FP.fsub (xx i) (f_rp ww xx i))) ⟨va_cnB 1 ht (g_C kc_VF_unsigned) rfl rfl rfl (hmb.1 _ (List.mem_of_getElem? (i := 9) rfl)) (ht _ kI_VF) (by decide +kernel) ⟨Nat.le_of_ble_eq_true rfl, Nat.le_of_ble_eq_true rfl⟩, ht _ ks_VF_unsigned, trivial⟩ (cPre_S hK hmb (hP.sub (ws' := []) [] rfl) (hD.sub (ws' := []) [] (by decide) rfl)) rfl rfl hl.1 rfl (lv_room (Nat.le_of_ble_eq_true rfl)) dCod_greatestRest_63 ⟨Nat.le_of_ble_eq_true rfl, Nat.le_of_ble_eq_true rfl⟩) (fun r13 u14 H locs w15 hP hD hS => ?_)
            subst w15
            have hP : va_P D vwCl [(h0, .inr (1, [.ref v0, .ref p0, .int np, .ref k0])), (p0, .inr (3, [.int pl, .int pg, .ref p1, .ref p2, .ref p3])), (p2, .inl (cF, 5, .inr (.inr (.inl ww)))), (x0, .inl (cF, 48, .inr (.inr (.inl xx))))] H := hP
            have hD : va_D A [(h0, .inr (1, [.ref v0, .ref p0, .int np, .ref k0])), (p0, .inr (3, [.int pl, .int pg, .ref p1, .ref p2, .ref p3])), (p2, .inl (cF, 5, .inr (.inr (.inl ww)))), (x0, .inl (cF, 48, .inr (.inr (.inl xx))))] := hD
            refine q_f (wc := []) (wr := [(h0, .inr (1, [.ref v0, .ref p0, .int np, .ref k0])), (p0, .inr (3, [.int pl, .int pg, .ref p1, .ref p2, .ref p3])), (p2, .inl (cF, 5, .inr (.inr (.inl ww)))), (x0, .inl (cF, 48, .inr (.inr (.inl xx))))]) [] [0, 1, 2, 3] hK hP hD hS hA rfl rfl (by decide) (by decide) (va_runSN (As := [.float (f_rest ww xx i), .float (f_uns (FP.fsub (xx i) (f_rp ww xx i)))]) (rest := []) ⟨hx, hb, hml, hown, ht⟩ (c_VF_greater l D cF cI H.size (f_rest ww xx i) (f_uns (FP.fsub (xx i) (f_rp ww xx i)))) ⟨va_cnB 2 ht (g_C kc_VF_greater) rfl rfl rfl (hmb.1 _ (List.mem_of_getElem? (i := 10) rfl)) (ht _ kI_VF) (by decide +kernel) ⟨Nat.le_of_ble_eq_true rfl, Nat.le_of_ble_eq_true rfl⟩, ht _ ks_VF_greater, trivial⟩ (cPre_S hK hmb (hP.sub (ws' := []) [] rfl) (hD.sub (ws' := []) [] (by decide) rfl)) rfl rfl hl.1 rfl (lv_room (Nat.le_of_ble_eq_true rfl)) dCod_greatestRest_66 ⟨Nat.le_of_ble_eq_true rfl, Nat.le_of_ble_eq_true rfl⟩) (fun r16 u17 H locs w18 hP hD hS => ?_)
            subst w18
            have hP : va_P D vwCl [(h0, .inr (1, [.ref v0, .ref p0, .int np, .ref k0])), (p0, .inr (3, [.int pl, .int pg, .ref p1, .ref p2, .ref p3])), (p2, .inl (cF, 5, .inr (.inr (.inl ww)))), (x0, .inl (cF, 48, .inr (.inr (.inl xx))))] H := hP
            have hD : va_D A [(h0, .inr (1, [.ref v0, .ref p0, .int np, .ref k0])), (p0, .inr (3, [.int pl, .int pg, .ref p1, .ref p2, .ref p3])), (p2, .inl (cF, 5, .inr (.inr (.inl ww)))), (x0, .inl (cF, 48, .inr (.inr (.inl xx))))] := hD
            refine W.eq (g2 := F0 m 69 ls [.float (f_rest ww xx (i + 1))]) rfl ?_
            refine lv_fstore_n (lv' := [(2, .float (f_rest ww xx (i + 1))), (5, .int 2), (4, .float (rq1 ww xx i)), (3, .int (nI i)), (1, .ref x0), (0, .ref h0)]) hx hb dCod_greatestRest_69 rfl hl (by decide) rfl (fun ls hl => ?_)
            refine lv_iinc (v := nI (i + 1)) (lv' := [(3, .int (nI (i + 1))), (2, .float (f_rest ww xx (i + 1))), (5, .int 2), (4, .float (rq1 ww xx i)), (1, .ref x0), (0, .ref h0)]) hx hb dCod_greatestRest_70 hl (k := 3) rfl (nI_1 i) (by decide) rfl (fun ls hl => ?_)
            refine lv_goto (tgt := 4) hx hb dCod_greatestRest_73 (by decide) ?_
            exact ih (i + 1) (by omega)  _ _ (hP.sub (ws' := [(h0, .inr (1, [.ref v0, .ref p0, .int np, .ref k0])), (p0, .inr (3, [.int pl, .int pg, .ref p1, .ref p2, .ref p3])), (p2, .inl (cF, 5, .inr (.inr (.inl ww)))), (x0, .inl (cF, 48, .inr (.inr (.inl xx))))]) [0, 1, 2, 3] rfl) (hD.sub (ws' := [(h0, .inr (1, [.ref v0, .ref p0, .int np, .ref k0])), (p0, .inr (3, [.int pl, .int pg, .ref p1, .ref p2, .ref p3])), (p2, .inl (cF, 5, .inr (.inr (.inl ww)))), (x0, .inl (cF, 48, .inr (.inr (.inl xx))))]) [0, 1, 2, 3] (by decide) rfl) hS ls (lv_sub hl [1, 0, 4, 5] rfl)
          · have hj2 : 2 ≤ i := nl_of (by decide) c12 (by omega) (by decide)
            refine lv_fload hx hb dCod_greatestRest_28 (lv_at hl 1 rfl) ?_
            refine lv_aload_n hx hb dCod_greatestRest_30 rfl (lv_at hl 5 rfl) ?_
            refine va_get (D := D) (ci := 1) (v := .ref p0) hx hb ht inCod hown hK hP 0 rfl rfl 1 (by decide) (ht _ kf_Cod_21) (fun _ h9 => h9) rfl dCod_greatestRest_31 ?_
            refine va_get (D := D) (ci := 3) (v := .ref p2) hx hb ht inPac hown hK hP 1 rfl rfl 3 (by decide) (ht _ kf_Cod_71) (fun _ h9 => h9) rfl dCod_greatestRest_34 ?_
            refine lv_iload hx hb dCod_greatestRest_37 (lv_at hl 0 rfl) ?_
            refine k_fald (j := 2) hx hb hK hP 2 0 rfl rfl (by unfold vp_in; decide) rfl dCod_greatestRest_39 ?_
            refine lv_aload_n hx hb dCod_greatestRest_40 rfl (lv_at hl 4 rfl) ?_
            refine lv_iload_n hx hb dCod_greatestRest_41 rfl (lv_at hl 3 rfl) ?_
            refine lv_iload hx hb dCod_greatestRest_42 (lv_at hl 0 rfl) ?_
            refine k_isub (v := nI (i - 2)) hx hb dCod_greatestRest_44 (sub_lit (by decide) hj2) ?_
            refine k_fald (j := (i - 2)) hx hb hK hP 3 0 rfl rfl (vp_in_nI (by omega) (by decide)) (nI_clamp (by omega)) dCod_greatestRest_45 ?_
            refine lv_fmul hx hb dCod_greatestRest_46 (fk_n (fk_mul (hw _) (hx9 _) (by decide) (by decide)) (by decide)) ?_
            refine lv_fadd hx hb dCod_greatestRest_47 (fk_n (fk_add (K := 155) (fk_mono (fk_add (K := 153) (fk_mono (show fk 1 FP.fconst0 by unfold fk; decide) (by decide)) (fk_mono (fk_mul (hw _) (hx9 _) (by decide) (by decide)) (by decide)) (by decide)) (by decide)) (fk_mono (fk_mul (hw _) (hx9 _) (by decide) (by decide)) (by decide)) (by decide)) (by decide)) ?_
            refine W.eq (g2 := F0 m 48 ls [.float (rq2 ww xx i)]) rfl ?_
            refine lv_fstore (lv' := [(4, .float (rq2 ww xx i)), (5, .int 2), (2, .float (f_rest ww xx i)), (3, .int (nI i)), (1, .ref x0), (0, .ref h0)]) hx hb dCod_greatestRest_48 hl (by decide) rfl (fun ls hl => ?_)
            refine lv_iinc (v := 3) (lv' := [(5, .int 3), (4, .float (rq2 ww xx i)), (2, .float (f_rest ww xx i)), (3, .int (nI i)), (1, .ref x0), (0, .ref h0)]) hx hb dCod_greatestRest_50 hl (k := 1) rfl (by decide) (by decide) rfl (fun ls hl => ?_)
            refine lv_goto (tgt := 16) hx hb dCod_greatestRest_53 (by decide) ?_
            refine lv_iload hx hb dCod_greatestRest_16 (lv_at hl 0 rfl) ?_
            refine lv_iconst (v := 4) hx hb dCod_greatestRest_18 (by decide) ?_
            refine lv_icmp_gt (tgt := 56) hx hb dCod_greatestRest_19 (by decide) (fun c9 => absurd c9 (by decide)) (fun _ => ?_)
            refine lv_iload hx hb dCod_greatestRest_22 (lv_at hl 0 rfl) ?_
            refine lv_iload_n hx hb dCod_greatestRest_24 rfl (lv_at hl 3 rfl) ?_
            refine lv_icmp_gt (tgt := 56) hx hb dCod_greatestRest_25 (by decide) (fun c20 => ?_) (fun c20 => ?_)
            · refine lv_fload_n hx hb dCod_greatestRest_56 rfl (lv_at hl 2 rfl) ?_
              refine lv_aload_n hx hb dCod_greatestRest_57 rfl (lv_at hl 4 rfl) ?_
              refine lv_iload_n hx hb dCod_greatestRest_58 rfl (lv_at hl 3 rfl) ?_
              refine k_fald (j := i) hx hb hK hP 3 0 rfl rfl (vp_in_nI (by omega) (by decide)) (nI_clamp (by omega)) dCod_greatestRest_59 ?_
              refine lv_fload hx hb dCod_greatestRest_60 (lv_at hl 1 rfl) ?_
              refine lv_fsub hx hb dCod_greatestRest_62 (fk_n (fk_sub (K := 157) (fk_mono (hx9 _) (by decide)) (fk_mono (fk_add (K := 155) (fk_mono (fk_add (K := 153) (fk_mono (show fk 1 FP.fconst0 by unfold fk; decide) (by decide)) (fk_mono (fk_mul (hw _) (hx9 _) (by decide) (by decide)) (by decide)) (by decide)) (by decide)) (fk_mono (fk_mul (hw _) (hx9 _) (by decide) (by decide)) (by decide)) (by decide)) (by decide)) (by decide)) (by decide)) ?_
              rw [show FP.fsub (xx i) (rq2 ww xx i) = FP.fsub (xx i) (f_rp ww xx i) from (by unfold f_rp; rw [if_neg c4, if_neg c12, if_pos c20])]
              refine q_f (wc := []) (wr := [(h0, .inr (1, [.ref v0, .ref p0, .int np, .ref k0])), (p0, .inr (3, [.int pl, .int pg, .ref p1, .ref p2, .ref p3])), (p2, .inl (cF, 5, .inr (.inr (.inl ww)))), (x0, .inl (cF, 48, .inr (.inr (.inl xx))))]) [] [0, 1, 2, 3] hK hP hD hS hA rfl rfl (by decide) (by decide) (va_runSN (As := [.float (FP.fsub (xx i) (f_rp ww xx i))]) (rest := [.float (f_rest ww xx i)]) ⟨hx, hb, hml, hown, ht⟩ (c_VF_unsigned l D cF cI H.size (FP.fsub (xx i) (f_rp ww xx i))) ⟨va_cnB 1 ht (g_C kc_VF_unsigned) rfl rfl rfl (hmb.1 _ (List.mem_of_getElem? (i := 9) rfl)) (ht _ kI_VF) (by decide +kernel) ⟨Nat.le_of_ble_eq_true rfl, Nat.le_of_ble_eq_true rfl⟩, ht _ ks_VF_unsigned, trivial⟩ (cPre_S hK hmb (hP.sub (ws' := []) [] rfl) (hD.sub (ws' := []) [] (by decide) rfl)) rfl rfl hl.1 rfl (lv_room (Nat.le_of_ble_eq_true rfl)) dCod_greatestRest_63 ⟨Nat.le_of_ble_eq_true rfl, Nat.le_of_ble_eq_true rfl⟩) (fun r21 u22 H locs w23 hP hD hS => ?_)
              subst w23
              have hP : va_P D vwCl [(h0, .inr (1, [.ref v0, .ref p0, .int np, .ref k0])), (p0, .inr (3, [.int pl, .int pg, .ref p1, .ref p2, .ref p3])), (p2, .inl (cF, 5, .inr (.inr (.inl ww)))), (x0, .inl (cF, 48, .inr (.inr (.inl xx))))] H := hP
              have hD : va_D A [(h0, .inr (1, [.ref v0, .ref p0, .int np, .ref k0])), (p0, .inr (3, [.int pl, .int pg, .ref p1, .ref p2, .ref p3])), (p2, .inl (cF, 5, .inr (.inr (.inl ww)))), (x0, .inl (cF, 48, .inr (.inr (.inl xx))))] := hD
              refine q_f (wc := []) (wr := [(h0, .inr (1, [.ref v0, .ref p0, .int np, .ref k0])), (p0, .inr (3, [.int pl, .int pg, .ref p1, .ref p2, .ref p3])), (p2, .inl (cF, 5, .inr (.inr (.inl ww)))), (x0, .inl (cF, 48, .inr (.inr (.inl xx))))]) [] [0, 1, 2, 3] hK hP hD hS hA rfl rfl (by decide) (by decide) (va_runSN (As := [.float (f_rest ww xx i), .float (f_uns (FP.fsub (xx i) (f_rp ww xx i)))]) (rest := []) ⟨hx, hb, hml, hown, ht⟩ (c_VF_greater l D cF cI H.size (f_rest ww xx i) (f_uns (FP.fsub (xx i) (f_rp ww xx i)))) ⟨va_cnB 2 ht (g_C kc_VF_greater) rfl rfl rfl (hmb.1 _ (List.mem_of_getElem? (i := 10) rfl)) (ht _ kI_VF) (by decide +kernel) ⟨Nat.le_of_ble_eq_true rfl, Nat.le_of_ble_eq_true rfl⟩, ht _ ks_VF_greater, trivial⟩ (cPre_S hK hmb (hP.sub (ws' := []) [] rfl) (hD.sub (ws' := []) [] (by decide) rfl)) rfl rfl hl.1 rfl (lv_room (Nat.le_of_ble_eq_true rfl)) dCod_greatestRest_66 ⟨Nat.le_of_ble_eq_true rfl, Nat.le_of_ble_eq_true rfl⟩) (fun r24 u25 H locs w26 hP hD hS => ?_)
              subst w26
              have hP : va_P D vwCl [(h0, .inr (1, [.ref v0, .ref p0, .int np, .ref k0])), (p0, .inr (3, [.int pl, .int pg, .ref p1, .ref p2, .ref p3])), (p2, .inl (cF, 5, .inr (.inr (.inl ww)))), (x0, .inl (cF, 48, .inr (.inr (.inl xx))))] H := hP
              have hD : va_D A [(h0, .inr (1, [.ref v0, .ref p0, .int np, .ref k0])), (p0, .inr (3, [.int pl, .int pg, .ref p1, .ref p2, .ref p3])), (p2, .inl (cF, 5, .inr (.inr (.inl ww)))), (x0, .inl (cF, 48, .inr (.inr (.inl xx))))] := hD
              refine W.eq (g2 := F0 m 69 ls [.float (f_rest ww xx (i + 1))]) rfl ?_
              refine lv_fstore_n (lv' := [(2, .float (f_rest ww xx (i + 1))), (5, .int 3), (4, .float (rq2 ww xx i)), (3, .int (nI i)), (1, .ref x0), (0, .ref h0)]) hx hb dCod_greatestRest_69 rfl hl (by decide) rfl (fun ls hl => ?_)
              refine lv_iinc (v := nI (i + 1)) (lv' := [(3, .int (nI (i + 1))), (2, .float (f_rest ww xx (i + 1))), (5, .int 3), (4, .float (rq2 ww xx i)), (1, .ref x0), (0, .ref h0)]) hx hb dCod_greatestRest_70 hl (k := 3) rfl (nI_1 i) (by decide) rfl (fun ls hl => ?_)
              refine lv_goto (tgt := 4) hx hb dCod_greatestRest_73 (by decide) ?_
              exact ih (i + 1) (by omega)  _ _ (hP.sub (ws' := [(h0, .inr (1, [.ref v0, .ref p0, .int np, .ref k0])), (p0, .inr (3, [.int pl, .int pg, .ref p1, .ref p2, .ref p3])), (p2, .inl (cF, 5, .inr (.inr (.inl ww)))), (x0, .inl (cF, 48, .inr (.inr (.inl xx))))]) [0, 1, 2, 3] rfl) (hD.sub (ws' := [(h0, .inr (1, [.ref v0, .ref p0, .int np, .ref k0])), (p0, .inr (3, [.int pl, .int pg, .ref p1, .ref p2, .ref p3])), (p2, .inl (cF, 5, .inr (.inr (.inl ww)))), (x0, .inl (cF, 48, .inr (.inr (.inl xx))))]) [0, 1, 2, 3] (by decide) rfl) hS ls (lv_sub hl [1, 0, 4, 5] rfl)
            · have hj3 : 3 ≤ i := nl_of (by decide) c20 (by omega) (by decide)
              refine lv_fload hx hb dCod_greatestRest_28 (lv_at hl 1 rfl) ?_
              refine lv_aload_n hx hb dCod_greatestRest_30 rfl (lv_at hl 5 rfl) ?_
              refine va_get (D := D) (ci := 1) (v := .ref p0) hx hb ht inCod hown hK hP 0 rfl rfl 1 (by decide) (ht _ kf_Cod_21) (fun _ h9 => h9) rfl dCod_greatestRest_31 ?_
              refine va_get (D := D) (ci := 3) (v := .ref p2) hx hb ht inPac hown hK hP 1 rfl rfl 3 (by decide) (ht _ kf_Cod_71) (fun _ h9 => h9) rfl dCod_greatestRest_34 ?_
              refine lv_iload hx hb dCod_greatestRest_37 (lv_at hl 0 rfl) ?_
              refine k_fald (j := 3) hx hb hK hP 2 0 rfl rfl (by unfold vp_in; decide) rfl dCod_greatestRest_39 ?_
              refine lv_aload_n hx hb dCod_greatestRest_40 rfl (lv_at hl 4 rfl) ?_
              refine lv_iload_n hx hb dCod_greatestRest_41 rfl (lv_at hl 3 rfl) ?_
              refine lv_iload hx hb dCod_greatestRest_42 (lv_at hl 0 rfl) ?_
              refine k_isub (v := nI (i - 3)) hx hb dCod_greatestRest_44 (sub_lit (by decide) hj3) ?_
              refine k_fald (j := (i - 3)) hx hb hK hP 3 0 rfl rfl (vp_in_nI (by omega) (by decide)) (nI_clamp (by omega)) dCod_greatestRest_45 ?_
              refine lv_fmul hx hb dCod_greatestRest_46 (fk_n (fk_mul (hw _) (hx9 _) (by decide) (by decide)) (by decide)) ?_
              refine lv_fadd hx hb dCod_greatestRest_47 (fk_n (fk_add (K := 157) (fk_mono (fk_add (K := 155) (fk_mono (fk_add (K := 153) (fk_mono (show fk 1 FP.fconst0 by unfold fk; decide) (by decide)) (fk_mono (fk_mul (hw _) (hx9 _) (by decide) (by decide)) (by decide)) (by decide)) (by decide)) (fk_mono (fk_mul (hw _) (hx9 _) (by decide) (by decide)) (by decide)) (by decide)) (by decide)) (fk_mono (fk_mul (hw _) (hx9 _) (by decide) (by decide)) (by decide)) (by decide)) (by decide)) ?_
              refine W.eq (g2 := F0 m 48 ls [.float (rq3 ww xx i)]) rfl ?_
              refine lv_fstore (lv' := [(4, .float (rq3 ww xx i)), (5, .int 3), (2, .float (f_rest ww xx i)), (3, .int (nI i)), (1, .ref x0), (0, .ref h0)]) hx hb dCod_greatestRest_48 hl (by decide) rfl (fun ls hl => ?_)
              refine lv_iinc (v := 4) (lv' := [(5, .int 4), (4, .float (rq3 ww xx i)), (2, .float (f_rest ww xx i)), (3, .int (nI i)), (1, .ref x0), (0, .ref h0)]) hx hb dCod_greatestRest_50 hl (k := 1) rfl (by decide) (by decide) rfl (fun ls hl => ?_)
              refine lv_goto (tgt := 16) hx hb dCod_greatestRest_53 (by decide) ?_
              refine lv_iload hx hb dCod_greatestRest_16 (lv_at hl 0 rfl) ?_
              refine lv_iconst (v := 4) hx hb dCod_greatestRest_18 (by decide) ?_
              refine lv_icmp_gt (tgt := 56) hx hb dCod_greatestRest_19 (by decide) (fun c9 => absurd c9 (by decide)) (fun _ => ?_)
              refine lv_iload hx hb dCod_greatestRest_22 (lv_at hl 0 rfl) ?_
              refine lv_iload_n hx hb dCod_greatestRest_24 rfl (lv_at hl 3 rfl) ?_
              refine lv_icmp_gt (tgt := 56) hx hb dCod_greatestRest_25 (by decide) (fun c28 => ?_) (fun c28 => ?_)
              · refine lv_fload_n hx hb dCod_greatestRest_56 rfl (lv_at hl 2 rfl) ?_
                refine lv_aload_n hx hb dCod_greatestRest_57 rfl (lv_at hl 4 rfl) ?_
                refine lv_iload_n hx hb dCod_greatestRest_58 rfl (lv_at hl 3 rfl) ?_
                refine k_fald (j := i) hx hb hK hP 3 0 rfl rfl (vp_in_nI (by omega) (by decide)) (nI_clamp (by omega)) dCod_greatestRest_59 ?_
                refine lv_fload hx hb dCod_greatestRest_60 (lv_at hl 1 rfl) ?_
                refine lv_fsub hx hb dCod_greatestRest_62 (fk_n (fk_sub (K := 159) (fk_mono (hx9 _) (by decide)) (fk_mono (fk_add (K := 157) (fk_mono (fk_add (K := 155) (fk_mono (fk_add (K := 153) (fk_mono (show fk 1 FP.fconst0 by unfold fk; decide) (by decide)) (fk_mono (fk_mul (hw _) (hx9 _) (by decide) (by decide)) (by decide)) (by decide)) (by decide)) (fk_mono (fk_mul (hw _) (hx9 _) (by decide) (by decide)) (by decide)) (by decide)) (by decide)) (fk_mono (fk_mul (hw _) (hx9 _) (by decide) (by decide)) (by decide)) (by decide)) (by decide)) (by decide)) (by decide)) ?_
                rw [show FP.fsub (xx i) (rq3 ww xx i) = FP.fsub (xx i) (f_rp ww xx i) from (by unfold f_rp; rw [if_neg c4, if_neg c12, if_neg c20, if_pos c28])]
                refine q_f (wc := []) (wr := [(h0, .inr (1, [.ref v0, .ref p0, .int np, .ref k0])), (p0, .inr (3, [.int pl, .int pg, .ref p1, .ref p2, .ref p3])), (p2, .inl (cF, 5, .inr (.inr (.inl ww)))), (x0, .inl (cF, 48, .inr (.inr (.inl xx))))]) [] [0, 1, 2, 3] hK hP hD hS hA rfl rfl (by decide) (by decide) (va_runSN (As := [.float (FP.fsub (xx i) (f_rp ww xx i))]) (rest := [.float (f_rest ww xx i)]) ⟨hx, hb, hml, hown, ht⟩ (c_VF_unsigned l D cF cI H.size (FP.fsub (xx i) (f_rp ww xx i))) ⟨va_cnB 1 ht (g_C kc_VF_unsigned) rfl rfl rfl (hmb.1 _ (List.mem_of_getElem? (i := 9) rfl)) (ht _ kI_VF) (by decide +kernel) ⟨Nat.le_of_ble_eq_true rfl, Nat.le_of_ble_eq_true rfl⟩, ht _ ks_VF_unsigned, trivial⟩ (cPre_S hK hmb (hP.sub (ws' := []) [] rfl) (hD.sub (ws' := []) [] (by decide) rfl)) rfl rfl hl.1 rfl (lv_room (Nat.le_of_ble_eq_true rfl)) dCod_greatestRest_63 ⟨Nat.le_of_ble_eq_true rfl, Nat.le_of_ble_eq_true rfl⟩) (fun r29 u30 H locs w31 hP hD hS => ?_)
                subst w31
                have hP : va_P D vwCl [(h0, .inr (1, [.ref v0, .ref p0, .int np, .ref k0])), (p0, .inr (3, [.int pl, .int pg, .ref p1, .ref p2, .ref p3])), (p2, .inl (cF, 5, .inr (.inr (.inl ww)))), (x0, .inl (cF, 48, .inr (.inr (.inl xx))))] H := hP
                have hD : va_D A [(h0, .inr (1, [.ref v0, .ref p0, .int np, .ref k0])), (p0, .inr (3, [.int pl, .int pg, .ref p1, .ref p2, .ref p3])), (p2, .inl (cF, 5, .inr (.inr (.inl ww)))), (x0, .inl (cF, 48, .inr (.inr (.inl xx))))] := hD
                refine q_f (wc := []) (wr := [(h0, .inr (1, [.ref v0, .ref p0, .int np, .ref k0])), (p0, .inr (3, [.int pl, .int pg, .ref p1, .ref p2, .ref p3])), (p2, .inl (cF, 5, .inr (.inr (.inl ww)))), (x0, .inl (cF, 48, .inr (.inr (.inl xx))))]) [] [0, 1, 2, 3] hK hP hD hS hA rfl rfl (by decide) (by decide) (va_runSN (As := [.float (f_rest ww xx i), .float (f_uns (FP.fsub (xx i) (f_rp ww xx i)))]) (rest := []) ⟨hx, hb, hml, hown, ht⟩ (c_VF_greater l D cF cI H.size (f_rest ww xx i) (f_uns (FP.fsub (xx i) (f_rp ww xx i)))) ⟨va_cnB 2 ht (g_C kc_VF_greater) rfl rfl rfl (hmb.1 _ (List.mem_of_getElem? (i := 10) rfl)) (ht _ kI_VF) (by decide +kernel) ⟨Nat.le_of_ble_eq_true rfl, Nat.le_of_ble_eq_true rfl⟩, ht _ ks_VF_greater, trivial⟩ (cPre_S hK hmb (hP.sub (ws' := []) [] rfl) (hD.sub (ws' := []) [] (by decide) rfl)) rfl rfl hl.1 rfl (lv_room (Nat.le_of_ble_eq_true rfl)) dCod_greatestRest_66 ⟨Nat.le_of_ble_eq_true rfl, Nat.le_of_ble_eq_true rfl⟩) (fun r32 u33 H locs w34 hP hD hS => ?_)
                subst w34
                have hP : va_P D vwCl [(h0, .inr (1, [.ref v0, .ref p0, .int np, .ref k0])), (p0, .inr (3, [.int pl, .int pg, .ref p1, .ref p2, .ref p3])), (p2, .inl (cF, 5, .inr (.inr (.inl ww)))), (x0, .inl (cF, 48, .inr (.inr (.inl xx))))] H := hP
                have hD : va_D A [(h0, .inr (1, [.ref v0, .ref p0, .int np, .ref k0])), (p0, .inr (3, [.int pl, .int pg, .ref p1, .ref p2, .ref p3])), (p2, .inl (cF, 5, .inr (.inr (.inl ww)))), (x0, .inl (cF, 48, .inr (.inr (.inl xx))))] := hD
                refine W.eq (g2 := F0 m 69 ls [.float (f_rest ww xx (i + 1))]) rfl ?_
                refine lv_fstore_n (lv' := [(2, .float (f_rest ww xx (i + 1))), (5, .int 4), (4, .float (rq3 ww xx i)), (3, .int (nI i)), (1, .ref x0), (0, .ref h0)]) hx hb dCod_greatestRest_69 rfl hl (by decide) rfl (fun ls hl => ?_)
                refine lv_iinc (v := nI (i + 1)) (lv' := [(3, .int (nI (i + 1))), (2, .float (f_rest ww xx (i + 1))), (5, .int 4), (4, .float (rq3 ww xx i)), (1, .ref x0), (0, .ref h0)]) hx hb dCod_greatestRest_70 hl (k := 3) rfl (nI_1 i) (by decide) rfl (fun ls hl => ?_)
                refine lv_goto (tgt := 4) hx hb dCod_greatestRest_73 (by decide) ?_
                exact ih (i + 1) (by omega)  _ _ (hP.sub (ws' := [(h0, .inr (1, [.ref v0, .ref p0, .int np, .ref k0])), (p0, .inr (3, [.int pl, .int pg, .ref p1, .ref p2, .ref p3])), (p2, .inl (cF, 5, .inr (.inr (.inl ww)))), (x0, .inl (cF, 48, .inr (.inr (.inl xx))))]) [0, 1, 2, 3] rfl) (hD.sub (ws' := [(h0, .inr (1, [.ref v0, .ref p0, .int np, .ref k0])), (p0, .inr (3, [.int pl, .int pg, .ref p1, .ref p2, .ref p3])), (p2, .inl (cF, 5, .inr (.inr (.inl ww)))), (x0, .inl (cF, 48, .inr (.inr (.inl xx))))]) [0, 1, 2, 3] (by decide) rfl) hS ls (lv_sub hl [1, 0, 4, 5] rfl)
              · have hj4 : 4 ≤ i := nl_of (by decide) c28 (by omega) (by decide)
                refine lv_fload hx hb dCod_greatestRest_28 (lv_at hl 1 rfl) ?_
                refine lv_aload_n hx hb dCod_greatestRest_30 rfl (lv_at hl 5 rfl) ?_
                refine va_get (D := D) (ci := 1) (v := .ref p0) hx hb ht inCod hown hK hP 0 rfl rfl 1 (by decide) (ht _ kf_Cod_21) (fun _ h9 => h9) rfl dCod_greatestRest_31 ?_
                refine va_get (D := D) (ci := 3) (v := .ref p2) hx hb ht inPac hown hK hP 1 rfl rfl 3 (by decide) (ht _ kf_Cod_71) (fun _ h9 => h9) rfl dCod_greatestRest_34 ?_
                refine lv_iload hx hb dCod_greatestRest_37 (lv_at hl 0 rfl) ?_
                refine k_fald (j := 4) hx hb hK hP 2 0 rfl rfl (by unfold vp_in; decide) rfl dCod_greatestRest_39 ?_
                refine lv_aload_n hx hb dCod_greatestRest_40 rfl (lv_at hl 4 rfl) ?_
                refine lv_iload_n hx hb dCod_greatestRest_41 rfl (lv_at hl 3 rfl) ?_
                refine lv_iload hx hb dCod_greatestRest_42 (lv_at hl 0 rfl) ?_
                refine k_isub (v := nI (i - 4)) hx hb dCod_greatestRest_44 (sub_lit (by decide) hj4) ?_
                refine k_fald (j := (i - 4)) hx hb hK hP 3 0 rfl rfl (vp_in_nI (by omega) (by decide)) (nI_clamp (by omega)) dCod_greatestRest_45 ?_
                refine lv_fmul hx hb dCod_greatestRest_46 (fk_n (fk_mul (hw _) (hx9 _) (by decide) (by decide)) (by decide)) ?_
                refine lv_fadd hx hb dCod_greatestRest_47 (fk_n (fk_add (K := 159) (fk_mono (fk_add (K := 157) (fk_mono (fk_add (K := 155) (fk_mono (fk_add (K := 153) (fk_mono (show fk 1 FP.fconst0 by unfold fk; decide) (by decide)) (fk_mono (fk_mul (hw _) (hx9 _) (by decide) (by decide)) (by decide)) (by decide)) (by decide)) (fk_mono (fk_mul (hw _) (hx9 _) (by decide) (by decide)) (by decide)) (by decide)) (by decide)) (fk_mono (fk_mul (hw _) (hx9 _) (by decide) (by decide)) (by decide)) (by decide)) (by decide)) (fk_mono (fk_mul (hw _) (hx9 _) (by decide) (by decide)) (by decide)) (by decide)) (by decide)) ?_
                refine W.eq (g2 := F0 m 48 ls [.float (rq4 ww xx i)]) rfl ?_
                refine lv_fstore (lv' := [(4, .float (rq4 ww xx i)), (5, .int 4), (2, .float (f_rest ww xx i)), (3, .int (nI i)), (1, .ref x0), (0, .ref h0)]) hx hb dCod_greatestRest_48 hl (by decide) rfl (fun ls hl => ?_)
                refine lv_iinc (v := 5) (lv' := [(5, .int 5), (4, .float (rq4 ww xx i)), (2, .float (f_rest ww xx i)), (3, .int (nI i)), (1, .ref x0), (0, .ref h0)]) hx hb dCod_greatestRest_50 hl (k := 1) rfl (by decide) (by decide) rfl (fun ls hl => ?_)
                refine lv_goto (tgt := 16) hx hb dCod_greatestRest_53 (by decide) ?_
                refine lv_iload hx hb dCod_greatestRest_16 (lv_at hl 0 rfl) ?_
                refine lv_iconst (v := 4) hx hb dCod_greatestRest_18 (by decide) ?_
                refine lv_icmp_gt (tgt := 56) hx hb dCod_greatestRest_19 (by decide) (fun _ => ?_) (fun c9 => absurd (by decide) c9)
                refine lv_fload_n hx hb dCod_greatestRest_56 rfl (lv_at hl 2 rfl) ?_
                refine lv_aload_n hx hb dCod_greatestRest_57 rfl (lv_at hl 4 rfl) ?_
                refine lv_iload_n hx hb dCod_greatestRest_58 rfl (lv_at hl 3 rfl) ?_
                refine k_fald (j := i) hx hb hK hP 3 0 rfl rfl (vp_in_nI (by omega) (by decide)) (nI_clamp (by omega)) dCod_greatestRest_59 ?_
                refine lv_fload hx hb dCod_greatestRest_60 (lv_at hl 1 rfl) ?_
                refine lv_fsub hx hb dCod_greatestRest_62 (fk_n (fk_sub (K := 161) (fk_mono (hx9 _) (by decide)) (fk_mono (fk_add (K := 159) (fk_mono (fk_add (K := 157) (fk_mono (fk_add (K := 155) (fk_mono (fk_add (K := 153) (fk_mono (show fk 1 FP.fconst0 by unfold fk; decide) (by decide)) (fk_mono (fk_mul (hw _) (hx9 _) (by decide) (by decide)) (by decide)) (by decide)) (by decide)) (fk_mono (fk_mul (hw _) (hx9 _) (by decide) (by decide)) (by decide)) (by decide)) (by decide)) (fk_mono (fk_mul (hw _) (hx9 _) (by decide) (by decide)) (by decide)) (by decide)) (by decide)) (fk_mono (fk_mul (hw _) (hx9 _) (by decide) (by decide)) (by decide)) (by decide)) (by decide)) (by decide)) (by decide)) ?_
                rw [show FP.fsub (xx i) (rq4 ww xx i) = FP.fsub (xx i) (f_rp ww xx i) from (by unfold f_rp; rw [if_neg c4, if_neg c12, if_neg c20, if_neg c28])]
                refine q_f (wc := []) (wr := [(h0, .inr (1, [.ref v0, .ref p0, .int np, .ref k0])), (p0, .inr (3, [.int pl, .int pg, .ref p1, .ref p2, .ref p3])), (p2, .inl (cF, 5, .inr (.inr (.inl ww)))), (x0, .inl (cF, 48, .inr (.inr (.inl xx))))]) [] [0, 1, 2, 3] hK hP hD hS hA rfl rfl (by decide) (by decide) (va_runSN (As := [.float (FP.fsub (xx i) (f_rp ww xx i))]) (rest := [.float (f_rest ww xx i)]) ⟨hx, hb, hml, hown, ht⟩ (c_VF_unsigned l D cF cI H.size (FP.fsub (xx i) (f_rp ww xx i))) ⟨va_cnB 1 ht (g_C kc_VF_unsigned) rfl rfl rfl (hmb.1 _ (List.mem_of_getElem? (i := 9) rfl)) (ht _ kI_VF) (by decide +kernel) ⟨Nat.le_of_ble_eq_true rfl, Nat.le_of_ble_eq_true rfl⟩, ht _ ks_VF_unsigned, trivial⟩ (cPre_S hK hmb (hP.sub (ws' := []) [] rfl) (hD.sub (ws' := []) [] (by decide) rfl)) rfl rfl hl.1 rfl (lv_room (Nat.le_of_ble_eq_true rfl)) dCod_greatestRest_63 ⟨Nat.le_of_ble_eq_true rfl, Nat.le_of_ble_eq_true rfl⟩) (fun r36 u37 H locs w38 hP hD hS => ?_)
                subst w38
                have hP : va_P D vwCl [(h0, .inr (1, [.ref v0, .ref p0, .int np, .ref k0])), (p0, .inr (3, [.int pl, .int pg, .ref p1, .ref p2, .ref p3])), (p2, .inl (cF, 5, .inr (.inr (.inl ww)))), (x0, .inl (cF, 48, .inr (.inr (.inl xx))))] H := hP
                have hD : va_D A [(h0, .inr (1, [.ref v0, .ref p0, .int np, .ref k0])), (p0, .inr (3, [.int pl, .int pg, .ref p1, .ref p2, .ref p3])), (p2, .inl (cF, 5, .inr (.inr (.inl ww)))), (x0, .inl (cF, 48, .inr (.inr (.inl xx))))] := hD
                refine q_f (wc := []) (wr := [(h0, .inr (1, [.ref v0, .ref p0, .int np, .ref k0])), (p0, .inr (3, [.int pl, .int pg, .ref p1, .ref p2, .ref p3])), (p2, .inl (cF, 5, .inr (.inr (.inl ww)))), (x0, .inl (cF, 48, .inr (.inr (.inl xx))))]) [] [0, 1, 2, 3] hK hP hD hS hA rfl rfl (by decide) (by decide) (va_runSN (As := [.float (f_rest ww xx i), .float (f_uns (FP.fsub (xx i) (f_rp ww xx i)))]) (rest := []) ⟨hx, hb, hml, hown, ht⟩ (c_VF_greater l D cF cI H.size (f_rest ww xx i) (f_uns (FP.fsub (xx i) (f_rp ww xx i)))) ⟨va_cnB 2 ht (g_C kc_VF_greater) rfl rfl rfl (hmb.1 _ (List.mem_of_getElem? (i := 10) rfl)) (ht _ kI_VF) (by decide +kernel) ⟨Nat.le_of_ble_eq_true rfl, Nat.le_of_ble_eq_true rfl⟩, ht _ ks_VF_greater, trivial⟩ (cPre_S hK hmb (hP.sub (ws' := []) [] rfl) (hD.sub (ws' := []) [] (by decide) rfl)) rfl rfl hl.1 rfl (lv_room (Nat.le_of_ble_eq_true rfl)) dCod_greatestRest_66 ⟨Nat.le_of_ble_eq_true rfl, Nat.le_of_ble_eq_true rfl⟩) (fun r39 u40 H locs w41 hP hD hS => ?_)
                subst w41
                have hP : va_P D vwCl [(h0, .inr (1, [.ref v0, .ref p0, .int np, .ref k0])), (p0, .inr (3, [.int pl, .int pg, .ref p1, .ref p2, .ref p3])), (p2, .inl (cF, 5, .inr (.inr (.inl ww)))), (x0, .inl (cF, 48, .inr (.inr (.inl xx))))] H := hP
                have hD : va_D A [(h0, .inr (1, [.ref v0, .ref p0, .int np, .ref k0])), (p0, .inr (3, [.int pl, .int pg, .ref p1, .ref p2, .ref p3])), (p2, .inl (cF, 5, .inr (.inr (.inl ww)))), (x0, .inl (cF, 48, .inr (.inr (.inl xx))))] := hD
                refine W.eq (g2 := F0 m 69 ls [.float (f_rest ww xx (i + 1))]) rfl ?_
                refine lv_fstore_n (lv' := [(2, .float (f_rest ww xx (i + 1))), (5, .int 5), (4, .float (rq4 ww xx i)), (3, .int (nI i)), (1, .ref x0), (0, .ref h0)]) hx hb dCod_greatestRest_69 rfl hl (by decide) rfl (fun ls hl => ?_)
                refine lv_iinc (v := nI (i + 1)) (lv' := [(3, .int (nI (i + 1))), (2, .float (f_rest ww xx (i + 1))), (5, .int 5), (4, .float (rq4 ww xx i)), (1, .ref x0), (0, .ref h0)]) hx hb dCod_greatestRest_70 hl (k := 3) rfl (nI_1 i) (by decide) rfl (fun ls hl => ?_)
                refine lv_goto (tgt := 4) hx hb dCod_greatestRest_73 (by decide) ?_
                exact ih (i + 1) (by omega)  _ _ (hP.sub (ws' := [(h0, .inr (1, [.ref v0, .ref p0, .int np, .ref k0])), (p0, .inr (3, [.int pl, .int pg, .ref p1, .ref p2, .ref p3])), (p2, .inl (cF, 5, .inr (.inr (.inl ww)))), (x0, .inl (cF, 48, .inr (.inr (.inl xx))))]) [0, 1, 2, 3] rfl) (hD.sub (ws' := [(h0, .inr (1, [.ref v0, .ref p0, .int np, .ref k0])), (p0, .inr (3, [.int pl, .int pg, .ref p1, .ref p2, .ref p3])), (p2, .inl (cF, 5, .inr (.inr (.inl ww)))), (x0, .inl (cF, 48, .inr (.inr (.inl xx))))]) [0, 1, 2, 3] (by decide) rfl) hS ls (lv_sub hl [1, 0, 4, 5] rfl)
  exact loop 16 0 (by omega)  _ _ (hP.sub (ws' := [(h0, .inr (1, [.ref v0, .ref p0, .int np, .ref k0])), (p0, .inr (3, [.int pl, .int pg, .ref p1, .ref p2, .ref p3])), (p2, .inl (cF, 5, .inr (.inr (.inl ww)))), (x0, .inl (cF, 48, .inr (.inr (.inl xx))))]) [0, 1, 2, 3] rfl) (hD.sub (ws' := [(h0, .inr (1, [.ref v0, .ref p0, .int np, .ref k0])), (p0, .inr (3, [.int pl, .int pg, .ref p1, .ref p2, .ref p3])), (p2, .inl (cF, 5, .inr (.inr (.inl ww)))), (x0, .inl (cF, 48, .inr (.inr (.inl xx))))]) [0, 1, 2, 3] (by decide) rfl) hS ls (by have hl := lv_sub hl (l' := [(2, .float FP.fconst0), (3, .int 0), (1, .ref x0), (0, .ref h0)]) [1, 0, 3, 2] rfl; try rw [show (0 : Int32) = nI 0 from (by decide)] at hl; exact hl)
