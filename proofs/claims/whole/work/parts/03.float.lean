/-! FLOATS BY THEIR BITS: how large, how small, no NaN -/
/-- |a| < 2 to the power K - 127 -/
def fk (K : Nat) (a : UInt32) : Prop := a.toNat % 2 ^ 31 < K * 2 ^ 23
/-- 2 to the power L - 127 ≤ |a| -/
def fg (L : Nat) (a : UInt32) : Prop := L * 2 ^ 23 ≤ a.toNat % 2 ^ 31
theorem fk_mono {K K' : Nat} {a : UInt32} (h : fk K a) (hk : K ≤ K') : fk K' a := Nat.lt_of_lt_of_le h (Nat.mul_le_mul_right _ hk)
theorem fg_mono {L L' : Nat} {a : UInt32} (h : fg L a) (hk : L' ≤ L) : fg L' a := Nat.le_trans (Nat.mul_le_mul_right _ hk) h
theorem fk_fin {K : Nat} {a : UInt32} (h : fk K a) (hK : K ≤ 255) : Jvm.FP.Core.FFin a := Jvm.FP.Core.fin_of_lt32 h hK
theorem n_of_le {a : UInt32} (h : a.toNat % 2 ^ 31 ≤ 2139095040) : vf_n32 a := by
  unfold vf_n32
  rw [UInt32.le_iff_toNat_le, Jvm.FP.Core.mask_toNat32]
  exact h
theorem fk_n {K : Nat} {a : UInt32} (h : fk K a) (hK : K ≤ 255) : vf_n32 a := by
  refine n_of_le ?_
  unfold fk at h
  omega
theorem n_of_nan {a : UInt32} (h : Jvm.FP.Core.fIsNaN a = false) : vf_n32 a :=
  n_of_le ((Jvm.FP.Core.ne_nan32 a).mp ((Jvm.FP.Core.notNaN_iff32 a).mp h))
theorem fk_add {K : Nat} {a b : UInt32} (ha : fk K a) (hb : fk K b) (hK : K ≤ 255) : fk (K + 2) (FP.fadd a b) := Jvm.FP.Core.fadd_mag ha hb hK
theorem fk_sub {K : Nat} {a b : UInt32} (ha : fk K a) (hb : fk K b) (hK : K ≤ 255) : fk (K + 2) (FP.fsub a b) := Jvm.FP.Core.fsub_mag ha hb hK
theorem fk_mul {Ka Kb : Nat} {a b : UInt32} (ha : fk Ka a) (hb : fk Kb b) (hKa : Ka ≤ 255) (hKb : Kb ≤ 255) : fk (Ka + Kb - 129 + 3) (FP.fmul a b) := Jvm.FP.Core.fmul_mag ha hb hKa hKb
theorem fk_div {K L : Nat} {a b : UInt32} (ha : fk K a) (hb : fg L b) (hb2 : fk 255 b) (hK : K ≤ 255) (hL : 1 ≤ L) : fk (K + (149 - 23 - 1) - L + 3) (FP.fdiv a b) :=
  Jvm.FP.Core.fdiv_mag ha hb hb2 hK hL
theorem neg_bits (a : UInt32) : (FP.fneg a).toNat % 2 ^ 31 = a.toNat % 2 ^ 31 := by
  have hx : (FP.fneg a).toNat = a.toNat ^^^ 2 ^ 31 := by
    unfold FP.fneg; rw [UInt32.toNat_xor]; rfl
  rw [hx, Nat.xor_mod_two_pow, Nat.mod_self, Nat.xor_zero]
theorem fk_neg {K : Nat} {a : UInt32} (h : fk K a) : fk K (FP.fneg a) := by unfold fk at *; rw [neg_bits]; exact h
theorem fg_zero {L : Nat} {a : UInt32} (h : fg L a) (hL : 1 ≤ L) : ¬ Jvm.FP.Core.FZero a := by
  rw [Jvm.FP.Core.zero_bits232]
  unfold fg at h
  omega
/-- the product of two that are not small is not small -/
theorem fg_mul {La Lb : Nat} {a b : UInt32} (ha : fg La a) (hb : fg Lb b) (fa : fk 255 a) (fb : fk 255 b) (h1 : 1 ≤ La) (h2 : 1 ≤ Lb) (h3 : 128 ≤ La + Lb) (h4 : La + Lb - 127 ≤ 255) :
    fg (La + Lb - 127) (FP.fmul a b) := by
  have e1 : (FP.fmul a b).toNat = Jvm.FP.Core.mul Jvm.FP.Core.b32 a.toNat b.toNat := Jvm.FP.Core.toNat_of32 (Jvm.FP.Core.round_fits Jvm.FP.Core.good_b32 _)
  have ia : Jvm.FP.Core.mag Jvm.FP.Core.b32 a.toNat < Jvm.FP.Core.infBits Jvm.FP.Core.b32 := by
    rw [Jvm.FP.Core.mag_toNat32, Jvm.FP.Core.infBits_b32]; unfold fk at fa; omega
  have ib : Jvm.FP.Core.mag Jvm.FP.Core.b32 b.toNat < Jvm.FP.Core.infBits Jvm.FP.Core.b32 := by
    rw [Jvm.FP.Core.mag_toNat32, Jvm.FP.Core.infBits_b32]; unfold fk at fb; omega
  obtain ⟨s, c, q, x1, x2, x3⟩ := Jvm.FP.Core.fin_of_mag Jvm.FP.Core.good_b32 ia
  obtain ⟨t, d, r, y1, y2, y3⟩ := Jvm.FP.Core.fin_of_mag Jvm.FP.Core.good_b32 ib
  obtain ⟨p1, p2, p3⟩ := Jvm.FP.Core.product_units x2 y2
  have hd : Jvm.FP.Core.decode Jvm.FP.Core.b32 (Jvm.FP.Core.mul Jvm.FP.Core.b32 a.toNat b.toNat) = Jvm.FP.Core.roundRatio Jvm.FP.Core.b32 (s != t) (c * d) 1 (q + r) := by
    unfold Jvm.FP.Core.mul
    rw [Jvm.FP.Core.decode_enc Jvm.FP.Core.good_b32 (Jvm.FP.Core.round_fits Jvm.FP.Core.good_b32 _), x1, y1, p1]; rfl
  have ua : Jvm.FP.Core.b32.tails * 2 ^ (La - 1) ≤ Jvm.FP.Core.unitsOf Jvm.FP.Core.b32 (Jvm.FP.Core.mag Jvm.FP.Core.b32 a.toNat) := by
    rw [← Jvm.FP.Core.unitsOf_start h1]; refine Jvm.FP.Core.unitsOf_le_iff.mpr ?_
    rw [Jvm.FP.Core.mag_toNat32, Jvm.FP.Core.tails_b32]; exact ha
  have ub : Jvm.FP.Core.b32.tails * 2 ^ (Lb - 1) ≤ Jvm.FP.Core.unitsOf Jvm.FP.Core.b32 (Jvm.FP.Core.mag Jvm.FP.Core.b32 b.toNat) := by
    rw [← Jvm.FP.Core.unitsOf_start h2]; refine Jvm.FP.Core.unitsOf_le_iff.mpr ?_
    rw [Jvm.FP.Core.mag_toNat32, Jvm.FP.Core.tails_b32]; exact hb
  have hq : Jvm.FP.Core.b32.qmin = -149 := Jvm.FP.Core.qmin_b32
  have hm := Jvm.FP.Core.mag_ge Jvm.FP.Core.good_b32 (m := (La + Lb - 127) * Jvm.FP.Core.b32.tails) hd (by decide) (e0 := 2 * Jvm.FP.Core.b32.qmin) (by omega) p2
    (by rw [Jvm.FP.Core.infBits_b32, Jvm.FP.Core.tails_b32]; omega) (by
      rw [p3, x3, y3, Jvm.FP.Core.unitsOf_start (by omega), Nat.mul_one]
      have e2 : (Jvm.FP.Core.b32.qmin - 2 * Jvm.FP.Core.b32.qmin).toNat = 149 := by rw [hq]; decide
      rw [e2]
      calc Jvm.FP.Core.b32.tails * 2 ^ (La + Lb - 127 - 1) * 2 ^ 149 = Jvm.FP.Core.b32.tails * 2 ^ (23 + (La - 1) + (Lb - 1)) := by
            rw [Nat.mul_assoc, ← Nat.pow_add, show La + Lb - 127 - 1 + 149 = 23 + (La - 1) + (Lb - 1) by omega]
        _ = (Jvm.FP.Core.b32.tails * 2 ^ (La - 1)) * (Jvm.FP.Core.b32.tails * 2 ^ (Lb - 1)) := by
            rw [Nat.pow_add, Nat.pow_add, show 2 ^ 23 = Jvm.FP.Core.b32.tails from rfl]; ac_rfl
        _ ≤ _ := Nat.mul_le_mul ua ub)
  rw [← e1, Jvm.FP.Core.mag_toNat32, Jvm.FP.Core.tails_b32] at hm
  exact hm
/-- between -32768 and 32767 by comparisons: below 2 to the power 16 -/
theorem fk_range {a : UInt32} (hn : Jvm.FP.Core.val32 a ≠ .nan) (h1 : -((32768 : Int) * (Jvm.FP.Core.one32 : Int)) ≤ Jvm.FP.Core.zval Jvm.FP.Core.b32 (Jvm.FP.Core.val32 a)) (h2 : Jvm.FP.Core.zval Jvm.FP.Core.b32 (Jvm.FP.Core.val32 a) ≤ (32768 : Int) * (Jvm.FP.Core.one32 : Int)) : fk 143 a := by
  have hz := Jvm.FP.Core.zmag_toNat32 hn
  have hm : Jvm.FP.Core.zmag Jvm.FP.Core.b32 (Jvm.FP.Core.val32 a) ≤ 32768 * Jvm.FP.Core.one32 := by
    have e : ((Jvm.FP.Core.zval Jvm.FP.Core.b32 (Jvm.FP.Core.val32 a)).natAbs) = Jvm.FP.Core.zmag Jvm.FP.Core.b32 (Jvm.FP.Core.val32 a) := Jvm.FP.Core.natAbs_signed _ _
    omega
  rw [hz] at hm
  have hu : Jvm.FP.Core.unitsOf Jvm.FP.Core.b32 (142 * Jvm.FP.Core.b32.tails) = 32768 * Jvm.FP.Core.one32 := by
    rw [Jvm.FP.Core.unitsOf_start (by decide), Jvm.FP.Core.tails_b32]; unfold Jvm.FP.Core.one32; decide +kernel
  rw [← hu] at hm
  have := Jvm.FP.Core.unitsOf_le_iff.mp hm
  rw [Jvm.FP.Core.tails_b32] at this
  unfold fk
  omega
