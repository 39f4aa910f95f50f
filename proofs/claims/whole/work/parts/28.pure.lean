/-! PURE: floats by their values -/
def NN (a : UInt32) : Prop := Jvm.FP.Core.val32 a ≠ .nan
def zv (a : UInt32) : Int := Jvm.FP.Core.zval Jvm.FP.Core.b32 (Jvm.FP.Core.val32 a)
theorem nn_of {a : UInt32} (h : vf_n32 a) : NN a := (Jvm.FP.Core.notNaN_iff32 a).mp (nan_of h)
theorem fk_nn {K : Nat} {a : UInt32} (h : fk K a) (hK : K ≤ 255) : NN a := nn_of (fk_n h hK)
theorem cv_eq {x y : UInt32} (hx : NN x) (hy : NN y) : FP.fcmp x y = some (compare (zv x) (zv y)) := Jvm.FP.Core.fcmp_zval hx hy
theorem cv_g {x y : UInt32} (hx : NN x) (hy : NN y) : 0 ≤ Op.cmpValue (FP.fcmp x y) .g ↔ zv y ≤ zv x := by
  rw [cv_eq hx hy]
  rcases Int.lt_trichotomy (zv x) (zv y) with q | q | q
  · rw [(Jvm.FP.Core.compare_lt_iff _ _).mpr q]
    exact ⟨fun h => absurd h (by decide), fun h => absurd q (by omega)⟩
  · rw [(Jvm.FP.Core.compare_eq_iff _ _).mpr q]
    exact ⟨fun _ => by omega, fun _ => by decide⟩
  · rw [(Jvm.FP.Core.compare_gt_iff _ _).mpr q]
    exact ⟨fun _ => by omega, fun _ => by decide⟩
theorem cv_lt {x y : UInt32} (hx : NN x) (hy : NN y) : Op.cmpValue (FP.fcmp x y) .l < 0 ↔ zv x < zv y := by
  rw [cv_eq hx hy]
  rcases Int.lt_trichotomy (zv x) (zv y) with q | q | q
  · rw [(Jvm.FP.Core.compare_lt_iff _ _).mpr q]
    exact ⟨fun _ => q, fun _ => by decide⟩
  · rw [(Jvm.FP.Core.compare_eq_iff _ _).mpr q]
    exact ⟨fun h => absurd h (by decide), fun h => absurd q (by omega)⟩
  · rw [(Jvm.FP.Core.compare_gt_iff _ _).mpr q]
    exact ⟨fun h => absurd h (by decide), fun h => absurd q (by omega)⟩
theorem cv_le {x y : UInt32} (hx : NN x) (hy : NN y) : Op.cmpValue (FP.fcmp x y) .l ≤ 0 ↔ zv x ≤ zv y := by
  rw [cv_eq hx hy]
  rcases Int.lt_trichotomy (zv x) (zv y) with q | q | q
  · rw [(Jvm.FP.Core.compare_lt_iff _ _).mpr q]
    exact ⟨fun _ => by omega, fun _ => by decide⟩
  · rw [(Jvm.FP.Core.compare_eq_iff _ _).mpr q]
    exact ⟨fun _ => by omega, fun _ => by decide⟩
  · rw [(Jvm.FP.Core.compare_gt_iff _ _).mpr q]
    exact ⟨fun h => absurd h (by decide), fun h => absurd q (by omega)⟩
theorem cv_z {x y : UInt32} (hx : NN x) (hy : NN y) : Op.cmpValue (FP.fcmp x y) .l = 0 ↔ zv x = zv y := by
  rw [cv_eq hx hy]
  rcases Int.lt_trichotomy (zv x) (zv y) with q | q | q
  · rw [(Jvm.FP.Core.compare_lt_iff _ _).mpr q]
    exact ⟨fun h => absurd h (by decide), fun h => absurd q (by omega)⟩
  · rw [(Jvm.FP.Core.compare_eq_iff _ _).mpr q]
    exact ⟨fun _ => q, fun _ => by decide⟩
  · rw [(Jvm.FP.Core.compare_gt_iff _ _).mpr q]
    exact ⟨fun h => absurd h (by decide), fun h => absurd q (by omega)⟩
/-- equal, or both a zero -/
def zq (a b : UInt32) : Prop := a = b ∨ (Jvm.FP.Core.FZero a ∧ Jvm.FP.Core.FZero b)
theorem zv_zero {a : UInt32} (h : Jvm.FP.Core.FZero a) : zv a = 0 := h.zval
theorem zero_zv {a : UInt32} (hn : NN a) (h : zv a = 0) : Jvm.FP.Core.FZero a := (Jvm.FP.Core.zero_bits232 a).mpr ((Jvm.FP.Core.zval_eq_zero32 hn).mp h)
theorem zq_of {a b : UInt32} (ha : NN a) (hb : NN b) (h : zv a = zv b) : zq a b := by
  by_cases hz : Jvm.FP.Core.FZero b
  · exact Or.inr ⟨zero_zv ha (h.trans (zv_zero hz)), hz⟩
  · exact Or.inl (Jvm.FP.Core.eq_bits32 hz (Jvm.FP.Core.fcmp_eq.mpr ⟨ha, hb, h⟩))
theorem zq_zv {a b : UInt32} (h : zq a b) : zv a = zv b := by
  rcases h with rfl | ⟨h1, h2⟩
  · rfl
  · rw [zv_zero h1, zv_zero h2]
theorem z_c0 : Jvm.FP.Core.FZero FP.fconst0 := (Jvm.FP.Core.zero_bits232 _).mpr (by decide)
theorem n_c0 : NN FP.fconst0 := (Jvm.FP.Core.ne_nan32 _).mpr (by decide)
theorem zv_c0 : zv FP.fconst0 = 0 := zv_zero z_c0
theorem zv_add {K : Nat} {a z : UInt32} (ha : fk K a) (hK : K ≤ 255) (hz : Jvm.FP.Core.FZero z) : zv (FP.fadd a z) = zv a :=
  (Jvm.FP.Core.fcmp_eq.mp (Jvm.FP.Core.fadd_zero_eq (fk_fin ha hK) hz).1).2.2
theorem zv_neg (a : UInt32) : zv (FP.fneg a) = -zv a := by
  unfold zv
  rw [Jvm.FP.val32_fneg, Jvm.FP.Core.zval_negate]
theorem nn_neg {a : UInt32} (h : NN a) : NN (FP.fneg a) := by
  unfold NN
  rw [Jvm.FP.val32_fneg]
  exact Jvm.FP.Core.negate_ne_nan h
theorem zero_neg {a : UInt32} (h : Jvm.FP.Core.FZero a) : Jvm.FP.Core.FZero (Jvm.FP.Core.fneg a) := by
  obtain ⟨s, q, h⟩ := h
  exact ⟨!s, q, by rw [Jvm.FP.Core.val32_fneg, h]; rfl⟩
theorem zv_sub {K : Nat} {a z : UInt32} (ha : fk K a) (hK : K ≤ 255) (hz : Jvm.FP.Core.FZero z) : zv (FP.fsub a z) = zv a := by
  rw [show FP.fsub a z = FP.fadd a (Jvm.FP.Core.fneg z) from Jvm.FP.Core.fsub_eq a z]
  exact zv_add ha hK (zero_neg hz)
/-! the greater, the unsigned -/
theorem uns_pos {v : UInt32} (hn : NN v) (h : 0 ≤ zv v) : f_uns v = v := if_pos ((cv_g hn n_c0).mpr (by rw [zv_c0]; exact h))
theorem uns_neg {v : UInt32} (hn : NN v) (h : zv v < 0) : f_uns v = FP.fneg v := if_neg (fun q => by rw [cv_g hn n_c0, zv_c0] at q; omega)
theorem uns_nn {v : UInt32} (hn : NN v) : NN (f_uns v) := by
  unfold f_uns; split
  · exact hn
  · exact nn_neg hn
theorem uns_zv {v : UInt32} (hn : NN v) : zv (f_uns v) = if 0 ≤ zv v then zv v else -zv v := by
  by_cases h : 0 ≤ zv v
  · rw [uns_pos hn h, if_pos h]
  · rw [uns_neg hn (by omega), if_neg h, zv_neg]
theorem uns_zq {u v : UInt32} (hu : NN u) (hv : NN v) (h : zv u = zv v ∨ zv u = -zv v) : zq (f_uns u) (f_uns v) := by
  refine zq_of (uns_nn hu) (uns_nn hv) ?_
  rw [uns_zv hu, uns_zv hv]
  split <;> split <;> omega
theorem gr_eq {x y : UInt32} (hx : NN x) (hy : NN y) : m_gt x y = f_gr x y := by
  unfold m_gt f_gr
  by_cases h : zv x < zv y
  · rw [if_pos ((cv_lt hx hy).mpr h), if_neg (fun q => by rw [cv_le hy hx] at q; omega)]
  · rw [if_neg (fun q => h ((cv_lt hx hy).mp q)), if_pos ((cv_le hy hx).mpr (by omega))]
theorem gr_zq {x y y' : UInt32} (hx : NN x) (hy : NN y) (h0 : 0 ≤ zv x) (h : zq y y') : m_gt x y' = f_gr x y := by
  rcases h with rfl | ⟨h1, h2⟩
  · exact gr_eq hx hy
  · have n2 : NN y' := h2.fin.ne_nan
    have e1 := zv_zero h1
    have e2 := zv_zero h2
    unfold m_gt f_gr
    rw [if_pos ((cv_le n2 hx).mpr (by omega)), if_neg (fun q => by rw [cv_lt hx hy] at q; omega)]
theorem gr_nn {x y : UInt32} (hx : NN x) (hy : NN y) : NN (f_gr x y) := by unfold f_gr; split; exact hy; exact hx
theorem gr_pos {x y : UInt32} (hx : NN x) (hy : NN y) (h0 : 0 ≤ zv x) : 0 ≤ zv (f_gr x y) := by
  unfold f_gr; split
  · rename_i h; rw [cv_lt hx hy] at h; omega
  · exact h0
/-! apart -/
theorem zv_zero_round (s : Bool) (q : Int) : Jvm.FP.Core.zval Jvm.FP.Core.b32 (Jvm.FP.Core.round Jvm.FP.Core.b32 (.fin s 0 q)) = 0 := by
  show Jvm.FP.Core.zval Jvm.FP.Core.b32 (Jvm.FP.Core.roundRatio Jvm.FP.Core.b32 s 0 1 q) = 0
  unfold Jvm.FP.Core.roundRatio
  rw [if_pos rfl]
  cases s <;> simp [Jvm.FP.Core.zval, Jvm.FP.Core.zmag, Jvm.FP.Core.sgn, Jvm.FP.Core.signed, Jvm.FP.Core.inUnits]
theorem zv_swap {a b : UInt32} (ha : Jvm.FP.Core.FFin a) (hb : Jvm.FP.Core.FFin b) : zv (FP.fsub a b) = -zv (FP.fsub b a) := by
  obtain ⟨s, c, q, ha⟩ := ha
  obtain ⟨t, d, r, hb⟩ := hb
  unfold zv
  rw [show FP.fsub a b = Jvm.FP.Core.fsub a b from rfl, show FP.fsub b a = Jvm.FP.Core.fsub b a from rfl, Jvm.FP.Core.val32_fsub, Jvm.FP.Core.val32_fsub, ha, hb]
  show Jvm.FP.Core.zval Jvm.FP.Core.b32 (Jvm.FP.Core.round Jvm.FP.Core.b32 (.fin (Jvm.FP.Core.sumSign s (!t) (Jvm.FP.Core.sumUnits s c q (!t) d r (min q r))) (Jvm.FP.Core.sumUnits s c q (!t) d r (min q r)).natAbs (min q r))) = -Jvm.FP.Core.zval Jvm.FP.Core.b32 (Jvm.FP.Core.round Jvm.FP.Core.b32 (.fin (Jvm.FP.Core.sumSign t (!s) (Jvm.FP.Core.sumUnits t d r (!s) c q (min r q))) (Jvm.FP.Core.sumUnits t d r (!s) c q (min r q)).natAbs (min r q)))
  rw [Int.min_comm r q]
  generalize min q r = e
  have hU : Jvm.FP.Core.sumUnits t d r (!s) c q e = -Jvm.FP.Core.sumUnits s c q (!t) d r e := by
    unfold Jvm.FP.Core.sumUnits
    rw [Jvm.FP.Core.signed_not, Jvm.FP.Core.signed_not]
    omega
  rw [hU]
  generalize Jvm.FP.Core.sumUnits s c q (!t) d r e = U
  by_cases h : U = 0
  · subst h
    rw [Int.neg_zero]
    show Jvm.FP.Core.zval Jvm.FP.Core.b32 (Jvm.FP.Core.round Jvm.FP.Core.b32 (.fin _ 0 e)) = -Jvm.FP.Core.zval Jvm.FP.Core.b32 (Jvm.FP.Core.round Jvm.FP.Core.b32 (.fin _ 0 e))
    rw [zv_zero_round, zv_zero_round]; rfl
  · have e1 : Jvm.FP.Core.sumSign s (!t) U = decide (U < 0) := if_neg h
    have e2 : Jvm.FP.Core.sumSign t (!s) (-U) = !decide (U < 0) := by
      unfold Jvm.FP.Core.sumSign
      rw [if_neg (by omega)]
      by_cases h2 : U < 0
      · rw [decide_eq_true h2, decide_eq_false (by omega)]; rfl
      · rw [decide_eq_false h2, decide_eq_true (by omega)]; rfl
    rw [e1, e2, Int.natAbs_neg]
    generalize decide (U < 0) = σ
    generalize U.natAbs = n
    rw [show Jvm.FP.Core.Datum.fin (!σ) n e = Jvm.FP.Core.negate (.fin σ n e) from rfl, ← Jvm.FP.Core.negate_round, Jvm.FP.Core.zval_negate, Int.neg_neg]
theorem apart_eq {yy yy2 yc yd : Nat → UInt32} (h1 : ∀ j, fk 143 (yy j)) (h2 : ∀ j, fk 143 (yy2 j)) (e1 : ∀ j, j < 16 → yy j = yc j) (e2 : ∀ j, j < 16 → yy2 j = yd j) : ∀ i, i ≤ 16 → m_ap yc yd i = f_apart yy2 yy i ∧ NN (f_apart yy2 yy i) ∧ 0 ≤ zv (f_apart yy2 yy i) := by
  intro i
  induction i with
  | zero => intro _; exact ⟨rfl, n_c0, by show 0 ≤ zv FP.fconst0; rw [zv_c0]; exact Int.le_refl 0⟩
  | succ i ih =>
    intro hi
    obtain ⟨q1, q2, q3⟩ := ih (by omega)
    have n1 : NN (FP.fsub (yy2 i) (yy i)) := fk_nn (fk_sub (h2 i) (h1 i) (by decide)) (by decide)
    have n2 : NN (FP.fsub (yy i) (yy2 i)) := fk_nn (fk_sub (h1 i) (h2 i) (by decide)) (by decide)
    refine ⟨?_, gr_nn q2 (uns_nn n1), gr_pos q2 (uns_nn n1) q3⟩
    show m_gt (m_ap yc yd i) (f_uns (FP.fsub (yc i) (yd i))) = f_gr (f_apart yy2 yy i) (f_uns (FP.fsub (yy2 i) (yy i)))
    rw [q1, ← e1 i (by omega), ← e2 i (by omega)]
    exact gr_zq q2 (uns_nn n1) q3 (uns_zq n1 n2 (Or.inr (zv_swap (fk_fin (h2 i) (by decide)) (fk_fin (h1 i) (by decide)))))
/-! the rest of a frame -/
theorem mx_0 {xf : Nat → UInt32} {i j : Nat} {J : Int32} (hJ : J = nI j) (h : i < j) (hj : j < 2147483648) : m_x xf i j J = FP.fconst0 := by
  subst hJ; exact if_pos (nI_lt h hj)
theorem mx_1 {xf : Nat → UInt32} {i j : Nat} {J : Int32} (hJ : J = nI j) (h : j ≤ i) (hi : i < 2147483648) : m_x xf i j J = xf (i - j) := by
  subst hJ; exact if_neg (nI_nlt h hi)
theorem w0_zero {w : UInt32} (h : fk 136 w) : Jvm.FP.Core.FZero (FP.fmul w FP.fconst0) := Jvm.FP.Core.fmul_zero (fk_fin h (by decide)) z_c0
theorem k_c0 {K : Nat} (h : 1 ≤ K) : fk K FP.fconst0 := fk_mono (K := 1) (show fk 1 FP.fconst0 by unfold fk; decide) h
theorem wx_k {w x : UInt32} (hw : fk 136 w) (hx : fk 143 x) : fk 153 (FP.fmul w x) := fk_mono (fk_mul hw hx (by decide) (by decide)) (by decide)
theorem wz_k {w : UInt32} (hw : fk 136 w) : fk 153 (FP.fmul w FP.fconst0) := wx_k hw (k_c0 (by decide))
theorem a1_k {a b : UInt32} (ha : fk 153 a) (hb : fk 153 b) : fk 155 (FP.fadd a b) := fk_add ha hb (by decide)
theorem a2_k {a b : UInt32} (ha : fk 155 a) (hb : fk 153 b) : fk 157 (FP.fadd a b) := fk_add ha (fk_mono hb (by decide)) (by decide)
theorem a3_k {a b : UInt32} (ha : fk 157 a) (hb : fk 153 b) : fk 159 (FP.fadd a b) := fk_add ha (fk_mono hb (by decide)) (by decide)
theorem a4_k {a b : UInt32} (ha : fk 159 a) (hb : fk 153 b) : fk 161 (FP.fadd a b) := fk_add ha (fk_mono hb (by decide)) (by decide)
theorem mrp_k {ww xf : Nat → UInt32} (hw : ∀ j, fk 136 (ww j)) (hx : ∀ j, fk 143 (xf j)) (i : Nat) : fk 161 (m_rp ww xf i) :=
  a4_k (a3_k (a2_k (a1_k (k_c0 (by decide)) (wx_k (hw _) (mx_k hx _ _ _))) (wx_k (hw _) (mx_k hx _ _ _))) (wx_k (hw _) (mx_k hx _ _ _))) (wx_k (hw _) (mx_k hx _ _ _))
theorem rq1_k {ww xx : Nat → UInt32} (hw : ∀ j, fk 136 (ww j)) (hx : ∀ j, fk 143 (xx j)) (i : Nat) : fk 155 (rq1 ww xx i) := a1_k (k_c0 (by decide)) (wx_k (hw _) (hx _))
theorem rq2_k {ww xx : Nat → UInt32} (hw : ∀ j, fk 136 (ww j)) (hx : ∀ j, fk 143 (xx j)) (i : Nat) : fk 157 (rq2 ww xx i) := a2_k (rq1_k hw hx i) (wx_k (hw _) (hx _))
theorem rq3_k {ww xx : Nat → UInt32} (hw : ∀ j, fk 136 (ww j)) (hx : ∀ j, fk 143 (xx j)) (i : Nat) : fk 159 (rq3 ww xx i) := a3_k (rq2_k hw hx i) (wx_k (hw _) (hx _))
theorem rq4_k {ww xx : Nat → UInt32} (hw : ∀ j, fk 136 (ww j)) (hx : ∀ j, fk 143 (xx j)) (i : Nat) : fk 161 (rq4 ww xx i) := a4_k (rq3_k hw hx i) (wx_k (hw _) (hx _))
theorem rp_k {ww xx : Nat → UInt32} (hw : ∀ j, fk 136 (ww j)) (hx : ∀ j, fk 143 (xx j)) (i : Nat) : fk 161 (f_rp ww xx i) := by
  unfold f_rp
  split
  · exact k_c0 (by decide)
  · split
    · exact fk_mono (rq1_k hw hx i) (by decide)
    · split
      · exact fk_mono (rq2_k hw hx i) (by decide)
      · split
        · exact fk_mono (rq3_k hw hx i) (by decide)
        · exact rq4_k hw hx i
theorem lt_lit {i N : Nat} {M : Int32} (hM : M = nI N) (h : i < N) (hN : N < 2147483648) : nI i < M := by subst hM; exact nI_lt h hN
theorem nlt_lit {i N : Nat} {M : Int32} (hM : M = nI N) (h : N ≤ i) (hi : i < 2147483648) : ¬ nI i < M := by subst hM; exact nI_nlt h hi
theorem rp_zv {ww xx : Nat → UInt32} (hw : ∀ j, fk 136 (ww j)) (hx : ∀ j, fk 143 (xx j)) {i : Nat} (hi : i < 16) : zv (m_rp ww xx i) = zv (f_rp ww xx i) := by
  unfold m_rp f_rp
  rcases (show i = 0 ∨ i = 1 ∨ i = 2 ∨ i = 3 ∨ 4 ≤ i by omega) with h | h | h | h | h
  · rw [mx_0 (j := 1) (by decide) (by omega) (by decide), mx_0 (j := 2) (by decide) (by omega) (by decide), mx_0 (j := 3) (by decide) (by omega) (by decide), mx_0 (j := 4) (by decide) (by omega) (by decide), if_pos (lt_lit (N := 1) (by decide) (by omega) (by decide))]
    rw [zv_add (a3_k (a2_k (a1_k (k_c0 (by decide)) (wz_k (hw _))) (wz_k (hw _))) (wz_k (hw _))) (by decide) (w0_zero (hw _)), zv_add (a2_k (a1_k (k_c0 (by decide)) (wz_k (hw _))) (wz_k (hw _))) (by decide) (w0_zero (hw _)), zv_add (a1_k (k_c0 (by decide)) (wz_k (hw _))) (by decide) (w0_zero (hw _)), zv_add (k_c0 (K := 1) (by decide)) (by decide) (w0_zero (hw _))]
  · rw [mx_1 (j := 1) (by decide) (by omega) (by omega), mx_0 (j := 2) (by decide) (by omega) (by decide), mx_0 (j := 3) (by decide) (by omega) (by decide), mx_0 (j := 4) (by decide) (by omega) (by decide), if_neg (nlt_lit (N := 1) (by decide) (by omega) (by omega)), if_pos (lt_lit (N := 2) (by decide) (by omega) (by decide))]
    show zv (FP.fadd (FP.fadd (FP.fadd (rq1 ww xx i) _) _) _) = _
    rw [zv_add (a3_k (a2_k (rq1_k hw hx i) (wz_k (hw _))) (wz_k (hw _))) (by decide) (w0_zero (hw _)), zv_add (a2_k (rq1_k hw hx i) (wz_k (hw _))) (by decide) (w0_zero (hw _)), zv_add (rq1_k hw hx i) (by decide) (w0_zero (hw _))]
  · rw [mx_1 (j := 1) (by decide) (by omega) (by omega), mx_1 (j := 2) (by decide) (by omega) (by omega), mx_0 (j := 3) (by decide) (by omega) (by decide), mx_0 (j := 4) (by decide) (by omega) (by decide), if_neg (nlt_lit (N := 1) (by decide) (by omega) (by omega)), if_neg (nlt_lit (N := 2) (by decide) (by omega) (by omega)), if_pos (lt_lit (N := 3) (by decide) (by omega) (by decide))]
    show zv (FP.fadd (FP.fadd (rq2 ww xx i) _) _) = _
    rw [zv_add (a3_k (rq2_k hw hx i) (wz_k (hw _))) (by decide) (w0_zero (hw _)), zv_add (rq2_k hw hx i) (by decide) (w0_zero (hw _))]
  · rw [mx_1 (j := 1) (by decide) (by omega) (by omega), mx_1 (j := 2) (by decide) (by omega) (by omega), mx_1 (j := 3) (by decide) (by omega) (by omega), mx_0 (j := 4) (by decide) (by omega) (by decide), if_neg (nlt_lit (N := 1) (by decide) (by omega) (by omega)), if_neg (nlt_lit (N := 2) (by decide) (by omega) (by omega)), if_neg (nlt_lit (N := 3) (by decide) (by omega) (by omega)), if_pos (lt_lit (N := 4) (by decide) (by omega) (by decide))]
    show zv (FP.fadd (rq3 ww xx i) _) = _
    rw [zv_add (rq3_k hw hx i) (by decide) (w0_zero (hw _))]
  · rw [mx_1 (j := 1) (by decide) (by omega) (by omega), mx_1 (j := 2) (by decide) (by omega) (by omega), mx_1 (j := 3) (by decide) (by omega) (by omega), mx_1 (j := 4) (by decide) (by omega) (by omega), if_neg (nlt_lit (N := 1) (by decide) (by omega) (by omega)), if_neg (nlt_lit (N := 2) (by decide) (by omega) (by omega)), if_neg (nlt_lit (N := 3) (by decide) (by omega) (by omega)), if_neg (nlt_lit (N := 4) (by decide) (by omega) (by omega))]
    rfl
theorem sub_zq {x p p' : UInt32} (hx : fk 143 x) (hp : fk 161 p) (hp' : fk 161 p') (h : zv p' = zv p) : zv (FP.fsub x p) = zv (FP.fsub x p') := by
  rcases zq_of (fk_nn hp' (by decide)) (fk_nn hp (by decide)) h with rfl | ⟨h1, h2⟩
  · rfl
  · rw [zv_sub hx (by decide) h1, zv_sub hx (by decide) h2]
theorem d_k {x p : UInt32} (hx : fk 143 x) (hp : fk 161 p) : fk 163 (FP.fsub x p) := fk_sub (fk_mono hx (by decide)) hp (by decide)
theorem rest_eq {ww xx : Nat → UInt32} (hw : ∀ j, fk 136 (ww j)) (hx : ∀ j, fk 143 (xx j)) : ∀ i, i ≤ 16 → m_rest ww xx i = f_rest ww xx i ∧ NN (f_rest ww xx i) ∧ 0 ≤ zv (f_rest ww xx i) := by
  intro i
  induction i with
  | zero => intro _; exact ⟨rfl, n_c0, by show 0 ≤ zv FP.fconst0; rw [zv_c0]; exact Int.le_refl 0⟩
  | succ i ih =>
    intro hi
    obtain ⟨q1, q2, q3⟩ := ih (by omega)
    have n1 : NN (FP.fsub (xx i) (f_rp ww xx i)) := fk_nn (d_k (hx i) (rp_k hw hx i)) (by decide)
    have n2 : NN (FP.fsub (xx i) (m_rp ww xx i)) := fk_nn (d_k (hx i) (mrp_k hw hx i)) (by decide)
    refine ⟨?_, gr_nn q2 (uns_nn n1), gr_pos q2 (uns_nn n1) q3⟩
    show m_gt (m_rest ww xx i) (f_uns (FP.fsub (xx i) (m_rp ww xx i))) = f_gr (f_rest ww xx i) (f_uns (FP.fsub (xx i) (f_rp ww xx i)))
    rw [q1]
    exact gr_zq q2 (uns_nn n1) q3 (uns_zq n1 n2 (Or.inl (sub_zq (hx i) (rp_k hw hx i) (mrp_k hw hx i) (rp_zv hw hx (by omega)))))
/-! sixteen times: the sign stays -/
theorem v16 : ∃ (D : Nat) (r : Int), Jvm.FP.Core.val32 1098907648 = .fin false D r ∧ D ≠ 0 ∧ 2 ^ (Jvm.FP.Core.b32.qmin - 2 * Jvm.FP.Core.b32.qmin).toNat ≤ Jvm.FP.Core.zmag Jvm.FP.Core.b32 (.fin false D r) := ⟨8388608, -19, by decide +kernel, by decide, by decide +kernel⟩
theorem zv_0 : Jvm.FP.Core.zval Jvm.FP.Core.b32 (Jvm.FP.Core.val32 0) = 0 := Jvm.FP.Core.zval32_zero
theorem neg_16 {k : UInt32} (hk : NN k) : 0 ≤ zv (FP.fmul k 1098907648) ↔ 0 ≤ zv k := by
  have hf := Jvm.FP.Core.val32_fits k
  have h16 := Jvm.FP.Core.val32_fits 1098907648
  obtain ⟨D, r, hv, hD, m16⟩ := v16
  rw [hv] at h16
  have hle : 2 * Jvm.FP.Core.b32.qmin ≤ Jvm.FP.Core.b32.qmin := by rw [Jvm.FP.Core.qmin_b32]; omega
  unfold zv
  rw [show FP.fmul k 1098907648 = Jvm.FP.Core.fmul k 1098907648 from rfl, Jvm.FP.Core.val32_fmul, hv]
  unfold NN at hk
  generalize Jvm.FP.Core.val32 k = d at hk hf ⊢
  cases d with
  | nan => exact absurd rfl hk
  | inf s =>
    have e : Jvm.FP.Core.exactProduct (.inf s) (.fin false D r) = .inf s := by
      show (if D = 0 then Jvm.FP.Core.Datum.nan else .inf (s != false)) = _
      rw [if_neg hD]
      cases s <;> rfl
    rw [e]
    exact Iff.rfl
  | fin s c q =>
    obtain ⟨e1, e2, e3⟩ := Jvm.FP.Core.product_units hf h16
    rw [e1]
    generalize Jvm.FP.Core.zmag Jvm.FP.Core.b32 (.fin false D r) = M at e3 m16
    have hq : Jvm.FP.Core.zval Jvm.FP.Core.b32 (.fin s c q) = Jvm.FP.Core.signed s (Jvm.FP.Core.zmag Jvm.FP.Core.b32 (.fin s c q)) := rfl
    have hle1 := fun (V : Jvm.FP.Core.Datum) (a1 : Jvm.FP.Core.fits Jvm.FP.Core.b32 V) (a2 : V ≠ .nan) => Jvm.FP.Core.zval_round_le Jvm.FP.Core.good_b32 (s := (s != false)) (c := c * D) (q := q + r) (e0 := 2 * Jvm.FP.Core.b32.qmin) (V := V) a1 a2 hle e2
    have hge1 := fun (V : Jvm.FP.Core.Datum) (a1 : Jvm.FP.Core.fits Jvm.FP.Core.b32 V) (a2 : V ≠ .nan) => Jvm.FP.Core.zval_round_ge Jvm.FP.Core.good_b32 (s := (s != false)) (c := c * D) (q := q + r) (e0 := 2 * Jvm.FP.Core.b32.qmin) (V := V) a1 a2 hle e2
    rw [e3] at hle1 hge1
    generalize 2 ^ (Jvm.FP.Core.b32.qmin - 2 * Jvm.FP.Core.b32.qmin).toNat = P at hle1 hge1 m16
    constructor
    · intro h
      refine Int.not_lt.mp (fun hlt => ?_)
      have h1 := hle1 (.fin s c q) hf (fun h => by cases h) (by
        rw [hq] at hlt ⊢
        generalize Jvm.FP.Core.zmag Jvm.FP.Core.b32 (.fin s c q) = Z at hlt ⊢
        cases s with
        | false =>
          have h' : (Z : Int) < 0 := hlt
          omega
        | true =>
          show -((Z * M : Nat) : Int) ≤ -(Z : Int) * (P : Int)
          have : Z * P ≤ Z * M := Nat.mul_le_mul_left Z m16
          rw [Int.neg_mul, ← Int.natCast_mul]
          omega)
      omega
    · intro h
      have h1 := hge1 (Jvm.FP.Core.val32 0) (Jvm.FP.Core.val32_fits 0) (by rw [Jvm.FP.Core.val32_zero]; exact Jvm.FP.Core.Datum.noConfusion) (by
        rw [zv_0, Int.zero_mul]
        rw [hq] at h
        generalize Jvm.FP.Core.zmag Jvm.FP.Core.b32 (.fin s c q) = Z at h ⊢
        cases s with
        | false => show (0 : Int) ≤ ((Z * M : Nat) : Int); omega
        | true =>
          have h' : (0 : Int) ≤ -(Z : Int) := h
          have hz : Z = 0 := by omega
          subst hz
          rw [Nat.zero_mul]; decide)
      rw [zv_0] at h1
      exact h1
theorem mid_16 {k : UInt32} (hk : NN k) (hk2 : NN (FP.fmul k 1098907648)) : m_whk k = FP.f2i (f_mid (FP.fmul k 1098907648)) := by
  unfold m_whk f_mid
  by_cases h : 0 ≤ zv k
  · rw [if_pos ((cv_g hk n_c0).mpr (by rw [zv_c0]; exact h)), if_pos ((cv_g hk2 n_c0).mpr (by rw [zv_c0]; exact (neg_16 hk).mpr h))]
  · rw [if_neg (fun q => h (by rw [cv_g hk n_c0, zv_c0] at q; exact q)), if_neg (fun q => h ((neg_16 hk).mp (by rw [cv_g hk2 n_c0, zv_c0] at q; exact q)))]
theorem mid_w (v : UInt32) : m_whole v = FP.f2i (f_mid v) := by unfold m_whole f_mid; split <;> rfl
theorem clamp_cl {lo hi : Int32} (h : lo.toInt ≤ hi.toInt) (x : Int32) : m_cl lo hi x = i_clamp lo hi x := by
  unfold m_cl i_clamp
  by_cases h1 : x < hi
  · rw [if_pos h1]
    by_cases h2 : lo < x
    · rw [if_pos h2, if_pos (Int32.le_of_lt h2), if_pos (Int32.le_of_lt h1)]
    · rw [if_neg h2]
      by_cases h3 : lo ≤ x
      · rw [if_pos h3, if_pos (Int32.le_of_lt h1)]
        exact Int32.le_antisymm (Int32.not_lt.mp h2) h3
      · rw [if_neg h3]
  · rw [if_neg h1]
    have h1' : hi ≤ x := Int32.not_lt.mp h1
    by_cases h2 : lo < hi
    · rw [if_pos h2, if_pos (Int32.le_trans (Int32.le_of_lt h2) h1')]
      by_cases h3 : x ≤ hi
      · rw [if_pos h3]; exact Int32.le_antisymm h3 h1'
      · rw [if_neg h3]
    · rw [if_neg h2]
      have e : lo = hi := Int32.le_antisymm (Int32.le_iff_toInt_le.mpr h) (Int32.not_lt.mp h2)
      subst e
      rw [if_pos h1']
      by_cases h3 : x ≤ lo
      · rw [if_pos h3]; exact Int32.le_antisymm h3 h1'
      · rw [if_neg h3]
theorem quo_eq {v w : UInt32} (hw : NN w) (hz : ¬ Jvm.FP.Core.FZero w) : f_quo v w = FP.fdiv v w := if_neg (fun q => hz (zero_zv hw (by rw [cv_z hw n_c0, zv_c0] at q; exact q)))
theorem ck_eq {sv ev : UInt32} {K K2 L : Nat} (hs : fk K sv) (he : fk K2 ev) (hg : fg L ev) (hK : K ≤ 255) (hK2 : K2 ≤ 255) (hL : 1 ≤ L) : c_k sv ev = m_k sv ev := by
  have hd : vf_n32 (FP.fdiv sv ev) := n_div hs he hg hK hK2 hL
  unfold c_k m_k f_rnd
  rw [quo_eq (fk_nn he hK2) (fg_zero hg hL), clamp_cl (by decide), mid_16 (nn_of hd) (nn_of (n_16 hd))]
theorem vl_eq {ww xx q : Nat → UInt32} {st : UInt32} {i : Nat} (hst : fk 160 st) (hg : fg 125 st) : v_l ww xx st q i = m_l ww xx st q i := by
  unfold v_l m_l f_rnd
  rw [quo_eq (fk_nn hst (by decide)) (fg_zero hg (by decide)), clamp_cl (by decide), mid_w]
theorem one_g {v : UInt32} (hn : NN v) (h : 0 ≤ Op.cmpValue (FP.fcmp v FP.fconst1) .g) : fg 127 v := by
  have h1 : NN FP.fconst1 := (Jvm.FP.Core.ne_nan32 _).mpr (by decide)
  rw [show FP.fcmp v FP.fconst1 = _ from Jvm.FP.Core.fcmp_key hn h1] at h
  have e1 : Jvm.FP.Core.fkey FP.fconst1 = 1065353216 := by decide
  rw [e1] at h
  have hk : (1065353216 : Int) ≤ Jvm.FP.Core.fkey v := by
    refine Int.not_lt.mp (fun q => ?_)
    rw [(Jvm.FP.Core.compare_lt_iff _ _).mpr q] at h
    exact absurd h (by decide)
  unfold Jvm.FP.Core.fkey at hk
  unfold fg
  split at hk
  · omega
  · omega
/-! a sample -/
theorem dz_lo : Jvm.FP.Core.zval Jvm.FP.Core.b64 (Jvm.FP.Core.val64 13898108450065350656) = -((32768 : Int) * (Jvm.FP.Core.one64 : Int)) := by decide +kernel
theorem dz_hi : Jvm.FP.Core.zval Jvm.FP.Core.b64 (Jvm.FP.Core.val64 4674736138332667904) = (32767 : Int) * (Jvm.FP.Core.one64 : Int) := by decide +kernel
theorem sz_hi : Jvm.FP.Core.zval Jvm.FP.Core.b32 (Jvm.FP.Core.val32 1191182336) = (32768 : Int) * (Jvm.FP.Core.one32 : Int) := by decide +kernel
theorem sz_lo : Jvm.FP.Core.zval Jvm.FP.Core.b32 (Jvm.FP.Core.val32 3338665984) = -((32768 : Int) * (Jvm.FP.Core.one32 : Int)) := by decide +kernel
theorem one_64 : (Jvm.FP.Core.one32 : Int) * ((2 ^ (Jvm.FP.Core.b32.qmin - Jvm.FP.Core.b64.qmin).toNat : Nat) : Int) = (Jvm.FP.Core.one64 : Int) := by decide +kernel
theorem inf_hi : ¬ Jvm.FP.Core.zval Jvm.FP.Core.b64 (.inf false) ≤ (32767 : Int) * (Jvm.FP.Core.one64 : Int) := by decide +kernel
theorem inf_lo : ¬ -((32768 : Int) * (Jvm.FP.Core.one64 : Int)) ≤ Jvm.FP.Core.zval Jvm.FP.Core.b64 (.inf true) := by decide +kernel
theorem d_lo {v : UInt64} (h : ¬ Op.cmpValue (FP.dcmp v 13898108450065350656) .l < 0) : Jvm.FP.Core.val64 v ≠ .nan ∧ -((32768 : Int) * (Jvm.FP.Core.one64 : Int)) ≤ Jvm.FP.Core.zval Jvm.FP.Core.b64 (Jvm.FP.Core.val64 v) := by
  cases e : FP.dcmp v 13898108450065350656 with
  | none => rw [e] at h; exact absurd (by decide) h
  | some o =>
    obtain ⟨h1, h2⟩ := Jvm.FP.Core.dcmp_some e
    refine ⟨h1, ?_⟩
    rw [← dz_lo]
    refine Int.not_lt.mp (fun q => ?_)
    have e2 := Jvm.FP.Core.dcmp_zval h1 h2
    rw [(Jvm.FP.Core.compare_lt_iff _ _).mpr q] at e2
    rw [show FP.dcmp v 13898108450065350656 = _ from e2] at h
    exact absurd (by decide) h
theorem d_hi {v : UInt64} (hn : Jvm.FP.Core.val64 v ≠ .nan) (h : ¬ 0 < Op.cmpValue (FP.dcmp v 4674736138332667904) .g) : Jvm.FP.Core.zval Jvm.FP.Core.b64 (Jvm.FP.Core.val64 v) ≤ (32767 : Int) * (Jvm.FP.Core.one64 : Int) := by
  have h2 : Jvm.FP.Core.val64 4674736138332667904 ≠ .nan := (Jvm.FP.Core.ne_nan _).mpr (by decide)
  rw [← dz_hi]
  refine Int.not_lt.mp (fun q => ?_)
  have e2 := Jvm.FP.Core.dcmp_zval hn h2
  rw [(Jvm.FP.Core.compare_gt_iff _ _).mpr q] at e2
  rw [show FP.dcmp v 4674736138332667904 = _ from e2] at h
  exact absurd (by decide) h
theorem smp_k {v : UInt64} (h1 : ¬ Op.cmpValue (FP.dcmp v 13898108450065350656) .l < 0) (h2 : ¬ 0 < Op.cmpValue (FP.dcmp v 4674736138332667904) .g) : fk 143 (FP.d2f v) := by
  obtain ⟨hn, hlo⟩ := d_lo h1
  have hhi := d_hi hn h2
  have hnn : NN (FP.d2f v) := nn_of (n_smp h1)
  have hp : (0 : Int) < (Jvm.FP.Core.one64 : Int) := by have := Jvm.FP.Core.one64_pos; omega
  have hfit := Jvm.FP.Core.val64_fits v
  have hv : Jvm.FP.Core.val32 (FP.d2f v) = Jvm.FP.Core.round Jvm.FP.Core.b32 (Jvm.FP.Core.val64 v) := by
    rw [Jvm.FP.d2f_core ((Jvm.FP.Core.notNaN_iff v).mpr hn)]
    exact Jvm.FP.Core.val32_d2f v
  have hq0 : Jvm.FP.Core.b64.qmin ≤ Jvm.FP.Core.b32.qmin := by decide
  refine fk_range hnn ?_ ?_
  · rw [hv]
    generalize hd : Jvm.FP.Core.val64 v = d at *
    cases d with
    | nan => exact absurd rfl hn
    | inf s =>
      cases s
      · exact absurd hhi inf_hi
      · exact absurd hlo inf_lo
    | fin s c q =>
      rw [← sz_lo]
      refine Jvm.FP.Core.zval_round_ge Jvm.FP.Core.good_b32 (e0 := Jvm.FP.Core.b64.qmin) (Jvm.FP.Core.val32_fits _) ((Jvm.FP.Core.ne_nan32 _).mpr (by decide)) hq0 hfit.2.1 ?_
      rw [sz_lo, Int.neg_mul, Int.mul_assoc, one_64]
      exact hlo
  · rw [hv]
    generalize hd : Jvm.FP.Core.val64 v = d at *
    cases d with
    | nan => exact absurd rfl hn
    | inf s =>
      cases s
      · exact absurd hhi inf_hi
      · exact absurd hlo inf_lo
    | fin s c q =>
      rw [← sz_hi]
      refine Jvm.FP.Core.zval_round_le Jvm.FP.Core.good_b32 (e0 := Jvm.FP.Core.b64.qmin) (Jvm.FP.Core.val32_fits _) ((Jvm.FP.Core.ne_nan32 _).mpr (by decide)) hq0 hfit.2.1 ?_
      rw [sz_hi, Int.mul_assoc, one_64]
      refine Int.le_trans (show _ ≤ (32767 : Int) * (Jvm.FP.Core.one64 : Int) from hhi) ?_
      omega
