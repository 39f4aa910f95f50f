/-! PURE: codes, weights, steps -/
def ag (n : Nat) (w w' : Nat → UInt32) : Prop := ∀ j, 1 ≤ j → j ≤ n → w j = w' j
theorem lev_ag {i : Nat} {w w' : Nat → UInt32} {q : UInt32} (h : ag (i - 1) w w') : ag i (f_lev i w q) (f_lev i w' q) := by
  intro j h1 h2
  unfold f_lev
  by_cases hj : j = i
  · rw [if_pos hj, if_pos hj]
  · rw [if_neg hj, if_neg hj, if_pos ⟨h1, by omega⟩, if_pos ⟨h1, by omega⟩, h j h1 (by omega), h (i - j) (by omega) (by omega)]
theorem ag_0 (w w' : Nat → UInt32) : ag 0 w w' := fun j h1 h2 => by omega
theorem lpc_ag (w w' : Nat → UInt32) (k1 k2 k3 k4 : Int32) : ag 4 (f_lpc w k1 k2 k3 k4) (f_lpc w' k1 k2 k3 k4) :=
  lev_ag (i := 4) (lev_ag (i := 3) (lev_ag (i := 2) (lev_ag (i := 1) (ag_0 w w'))))
theorem pred_c {w w' q q' : Nat → UInt32} (hw : ag 4 w w') (hq : ∀ t, t < 4 → q t = q' t) : f_pred w q = f_pred w' q' := by
  unfold f_pred
  rw [hw 1 (by decide) (by decide), hw 2 (by decide) (by decide), hw 3 (by decide) (by decide), hw 4 (by decide) (by decide), hq 0 (by decide), hq 1 (by decide), hq 2 (by decide), hq 3 (by decide)]
theorem ac_c {xx X : Nat → UInt32} (h : ∀ j, j < 16 → X j = xx j) (k : Nat) : ∀ i, i ≤ 16 → f_ac X k i = f_ac xx k i := by
  intro i
  induction i with
  | zero => intro _; rfl
  | succ i ih =>
    intro hi
    show (if k ≤ i then FP.fadd (f_ac X k i) (FP.fmul (X i) (X (i - k))) else FP.fconst0) = (if k ≤ i then FP.fadd (f_ac xx k i) (FP.fmul (xx i) (xx (i - k))) else FP.fconst0)
    rw [ih (by omega), h i (by omega), h (i - k) (by omega)]
theorem like_c {xx X rr rr' : Nat → UInt32} (h : ∀ j, j < 16 → X j = xx j) : ∀ j, j ≤ 4 → f_like rr xx j = f_like rr' X j := by
  intro j hj
  unfold f_like
  rw [ac_c h 0 16 (Nat.le_refl _), ac_c h 1 16 (Nat.le_refl _), ac_c h 2 16 (Nat.le_refl _), ac_c h 3 16 (Nat.le_refl _), ac_c h 4 16 (Nat.le_refl _)]
  rcases (show j = 0 ∨ j = 1 ∨ j = 2 ∨ j = 3 ∨ j = 4 by omega) with rfl | rfl | rfl | rfl | rfl <;> rfl
theorem eX_c (xx xf : Nat → UInt32) : ∀ j, j < 16 → e_X xx xf j = xx j := fun _ h => if_pos h
set_option maxRecDepth 100000 in
theorem chain {ww ww' rr rr' : Nat → UInt32} (hr : ∀ j, j ≤ 4 → rr j = rr' j) (hk : ∀ j, fk 192 (rr' j)) (h0 : fg 127 (rr' 0)) :
    cK1 rr = mK1 rr' ∧ cK2 ww rr = mK2 (m_a0 ww') rr' ∧ cK3 ww rr = mK3 (m_a0 ww') rr' ∧ cK4 ww rr = mK4 (m_a0 ww') rr' := by
  have r0 := hr 0 (by decide)
  have r1 := hr 1 (by decide)
  have r2 := hr 2 (by decide)
  have r3 := hr 3 (by decide)
  have r4 := hr 4 (by decide)
  have e1 : cK1 rr = mK1 rr' := by
    unfold cK1 mK1; rw [r1, r0]; exact ck_eq (hk 1) (hk 0) h0 (by decide) (by decide) (by decide)
  have E1 : cE1 rr = mE1 rr' := by unfold cE1 mE1; rw [e1, r0]
  have a1 : ag 1 (cW1 ww rr) (mW1 (m_a0 ww') rr') := by
    unfold cW1 mW1; rw [e1]; exact lev_ag (i := 1) (ag_0 _ _)
  have b1 : ∀ j, 1 ≤ j → j < 2 → fk 127 (mW1 (m_a0 ww') rr' j) := lev_k (i := 1) (q_k (cl_ok _)) b_0 (by decide) (by decide)
  have b2 : ∀ j, 1 ≤ j → j < 3 → fk 130 (mW2 (m_a0 ww') rr' j) := lev_k (i := 2) (q_k (cl_ok _)) b1 (by decide) (by decide)
  have b3 : ∀ j, 1 ≤ j → j < 4 → fk 133 (mW3 (m_a0 ww') rr' j) := lev_k (i := 3) (q_k (cl_ok _)) b2 (by decide) (by decide)
  have pr : ∀ {x y : UInt32}, fk 133 x → fk 192 y → fk 199 (FP.fmul x y) := fun h1 h2 => fk_mono (fk_mul h1 h2 (by decide) (by decide)) (by decide)
  have s1 : ∀ {x y : UInt32}, fk 192 x → fk 199 y → fk 201 (FP.fsub x y) := fun h1 h2 => fk_sub (K := 199) (fk_mono h1 (by decide)) h2 (by decide)
  have s2 : ∀ {x y : UInt32}, fk 201 x → fk 199 y → fk 203 (FP.fsub x y) := fun h1 h2 => fk_sub (K := 201) h1 (fk_mono h2 (by decide)) (by decide)
  have s3 : ∀ {x y : UInt32}, fk 203 x → fk 199 y → fk 205 (FP.fsub x y) := fun h1 h2 => fk_sub (K := 203) h1 (fk_mono h2 (by decide)) (by decide)
  have e2 : cK2 ww rr = mK2 (m_a0 ww') rr' := by
    unfold cK2 mK2
    rw [r2, r1, E1, a1 1 (by decide) (by decide)]
    exact ck_eq (s1 (hk 2) (pr (fk_mono (b1 1 (by decide) (by decide)) (by decide)) (hk 1))) (mE1_k hk) (mE1_g hk h0) (by decide) (by decide) (by decide)
  have E2 : cE2 ww rr = mE2 (m_a0 ww') rr' := by unfold cE2 mE2; rw [e2, E1]
  have a2 : ag 2 (cW2 ww rr) (mW2 (m_a0 ww') rr') := by
    unfold cW2 mW2; rw [e2]; exact lev_ag (i := 2) a1
  have e3 : cK3 ww rr = mK3 (m_a0 ww') rr' := by
    unfold cK3 mK3
    rw [r3, r2, r1, E2, a2 1 (by decide) (by decide), a2 2 (by decide) (by decide)]
    exact ck_eq (s2 (s1 (hk 3) (pr (fk_mono (b2 1 (by decide) (by decide)) (by decide)) (hk 2))) (pr (fk_mono (b2 2 (by decide) (by decide)) (by decide)) (hk 1))) (mE2_k hk) (mE2_g hk h0) (by decide) (by decide) (by decide)
  have E3 : cE3 ww rr = mE3 (m_a0 ww') rr' := by unfold cE3 mE3; rw [e3, E2]
  have a3 : ag 3 (cW3 ww rr) (mW3 (m_a0 ww') rr') := by
    unfold cW3 mW3; rw [e3]; exact lev_ag (i := 3) a2
  refine ⟨e1, e2, e3, ?_⟩
  unfold cK4 mK4
  rw [r4, r3, r2, r1, E3, a3 1 (by decide) (by decide), a3 2 (by decide) (by decide), a3 3 (by decide) (by decide)]
  exact ck_eq (s3 (s2 (s1 (hk 4) (pr (b3 1 (by decide) (by decide)) (hk 3))) (pr (b3 2 (by decide) (by decide)) (hk 2))) (pr (b3 3 (by decide) (by decide)) (hk 1))) (mE3_k hk) (mE3_g hk h0) (by decide) (by decide) (by decide)
theorem tW_ag {ww ww' rr rr' : Nat → UInt32} (hr : ∀ j, j ≤ 4 → rr j = rr' j) (hk : ∀ j, fk 192 (rr' j)) (h0 : fg 127 (rr' 0)) : ag 4 (t_W ww rr) (n_W ww' rr') := by
  obtain ⟨e1, e2, e3, e4⟩ := chain (ww := ww) (ww' := ww') hr hk h0
  unfold t_W n_W
  rw [e1, e2, e3, e4]
  exact lpc_ag _ _ _ _ _ _
theorem tk_c {ww ww' rr rr' : Nat → UInt32} {kc kc' : Nat → Int32} (hr : ∀ j, j ≤ 4 → rr j = rr' j) (hk : ∀ j, fk 192 (rr' j)) (h0 : fg 127 (rr' 0)) : ∀ j, 1 ≤ j → j ≤ 4 → t_kc kc ww rr j = n_K kc' ww' rr' j := by
  obtain ⟨e1, e2, e3, e4⟩ := chain (ww := ww) (ww' := ww') hr hk h0
  unfold t_kc n_K
  rw [e1, e2, e3, e4]
  intro j h1 h2
  rcases (show j = 1 ∨ j = 2 ∨ j = 3 ∨ j = 4 by omega) with rfl | rfl | rfl | rfl <;> rfl
/-! the step -/
theorem pow_all : ∀ g : Nat, g < 16 → m_pow g = FP.i2f (1 <<< (nI g &&& 31)) := by decide +kernel
theorem step_eq {lin : Int32} {g : Nat} (h : g < 16) : m_step lin g = f_step lin (nI g) := by
  unfold m_step f_step
  rw [pow_all g h]
theorem sc_eq2 {lin : Int32} {most : UInt32} : ∀ n, n ≤ 15 → f_sc lin most n = nI (m_sc lin most n) := by
  intro n
  induction n with
  | zero => intro _; show (15 : Int32) = nI 15; decide
  | succ n ih =>
    intro hn
    show (if 0 ≤ Op.cmpValue (FP.fcmp (FP.fmul 1077936128 (f_step lin (nI (14 - n)))) most) .g then nI (14 - n) else f_sc lin most n) = nI (if 0 ≤ Op.cmpValue (FP.fcmp (FP.fmul 1077936128 (m_step lin (14 - n))) most) .g then 14 - n else m_sc lin most n)
    rw [step_eq (show 14 - n < 16 by omega), ih (by omega)]
    split <;> rfl
theorem rp_c {w w' x x' : Nat → UInt32} (hw : ag 4 w w') (hx : ∀ j, j < 16 → x j = x' j) {i : Nat} (hi : i < 16) : f_rp w x i = f_rp w' x' i := by
  have q : ∀ j, x (i - j) = x' (i - j) := fun j => hx _ (by omega)
  have e1 : rq1 w x i = rq1 w' x' i := by unfold rq1; rw [hw 1 (by decide) (by decide), q 1]
  have e2 : rq2 w x i = rq2 w' x' i := by unfold rq2; rw [e1, hw 2 (by decide) (by decide), q 2]
  have e3 : rq3 w x i = rq3 w' x' i := by unfold rq3; rw [e2, hw 3 (by decide) (by decide), q 3]
  have e4 : rq4 w x i = rq4 w' x' i := by unfold rq4; rw [e3, hw 4 (by decide) (by decide), q 4]
  unfold f_rp
  rw [e1, e2, e3, e4]
theorem rest_c {w w' x x' : Nat → UInt32} (hw : ag 4 w w') (hx : ∀ j, j < 16 → x j = x' j) : ∀ i, i ≤ 16 → f_rest w x i = f_rest w' x' i := by
  intro i
  induction i with
  | zero => intro _; rfl
  | succ i ih =>
    intro hi
    show f_gr (f_rest w x i) (f_uns (FP.fsub (x i) (f_rp w x i))) = f_gr (f_rest w' x' i) (f_uns (FP.fsub (x' i) (f_rp w' x' i)))
    rw [ih (by omega), hx i (by omega), rp_c hw hx (by omega)]
/-! speaking -/
theorem neg1_sub {i j : Nat} (hj : 1 ≤ j) (h : i < j) : (-1 : Int32) - (nI i - nI j) = nI (j - 1 - i) := by
  rw [show (-1 : Int32) - (nI i - nI j) = nI j - nI 1 - nI i from ?_, pk_sub (by omega), pk_sub (by omega)]
  rw [show (-1 : Int32) = - nI 1 from (by decide)]
  apply Int32.toBitVec_inj.mp
  simp only [Int32.toBitVec_sub, Int32.toBitVec_neg]
  generalize (nI i).toBitVec = x
  generalize (nI j).toBitVec = y
  generalize (nI 1).toBitVec = z
  rw [BitVec.sub_eq_add_neg, BitVec.sub_eq_add_neg, BitVec.sub_eq_add_neg, BitVec.sub_eq_add_neg, BitVec.neg_add, BitVec.sub_eq_add_neg, BitVec.neg_neg]
  ac_rfl
theorem his_v {wk mm : Nat → UInt32} {i t : Nat} (hi : i ≤ 16) (ht : t < 4) : m_his wk mm i t = if t < i then wk (i - 1 - t) else mm (t - i) := by
  show m_bef wk mm (nI i - nI (t + 1)) = _
  unfold m_bef
  by_cases h : t < i
  · rw [if_pos h, pk_sub (show t + 1 ≤ i by omega), if_neg (nI_pos (by omega)), nI_clamp (by omega)]
    congr 1 <;> omega
  · rw [if_neg h, if_pos (pk_sneg (by omega) (by omega)), neg1_sub (by omega) (by omega), nI_clamp (by omega)]
    congr 1 <;> omega
theorem mm_hi (sp : (Nat → UInt32) → Nat → UInt32) (mm : Nat → UInt32) {t : Nat} (h : 4 ≤ t) : ∀ i, g_mm sp mm i t = mm t := by
  intro i
  induction i with
  | zero => rfl
  | succ i ih =>
    show f_shift (g_mm sp mm i) (sp (g_mm sp mm i) i) t = mm t
    unfold f_shift vf_upd
    rw [if_neg (by omega), if_neg (by omega), if_neg (by omega), if_neg (by omega)]
    exact ih
theorem shift_0 (mm : Nat → UInt32) (y : UInt32) : f_shift mm y 0 = y := rfl
theorem shift_s (mm : Nat → UInt32) (y : UInt32) {t : Nat} (h : t + 1 < 4) : f_shift mm y (t + 1) = mm t := by
  rcases (show t = 0 ∨ t = 1 ∨ t = 2 by omega) with rfl | rfl | rfl <;> rfl
theorem vup_at (g : Nat → UInt32) (k : Nat) (y : UInt32) : vf_upd g k y k = y := if_pos rfl
theorem vup_ne (g : Nat → UInt32) {k j : Nat} (y : UInt32) (h : j ≠ k) : vf_upd g k y j = g j := if_neg h
theorem speak_eq {sp spm : (Nat → UInt32) → Nat → UInt32} {mm wk yy : Nat → UInt32} (hc : ∀ q q' i, i < 16 → (∀ t, t < 4 → q t = q' t) → sp q i = sp q' i)
    (he : ∀ q, (∀ j, fk 143 (q j)) → ∀ i, i < 16 → spm q i = sp (m_his q mm i) i) (hb : ∀ q, (∀ j, fk 143 (q j)) → ∀ i, fk 143 (spm q i)) (hk : ∀ j, fk 143 (wk j)) :
    ∀ i, i ≤ 16 → (∀ t, t < 4 → g_mm sp mm i t = m_his (gw spm wk i) mm i t) ∧ (∀ j, j < i → g_yy sp mm yy i j = gw spm wk i j) := by
  intro i
  induction i with
  | zero =>
    intro _
    refine ⟨fun t ht => ?_, fun j hj => by omega⟩
    rw [his_v (by omega) ht, if_neg (by omega)]; rfl
  | succ i ih =>
    intro hi
    obtain ⟨q1, q2⟩ := ih (by omega)
    have hy : sp (g_mm sp mm i) i = spm (gw spm wk i) i := by
      rw [he _ (gw_k hb hk i) i (by omega)]
      exact hc _ _ i (by omega) q1
    constructor
    · intro t ht
      show f_shift (g_mm sp mm i) (sp (g_mm sp mm i) i) t = m_his (vf_upd (gw spm wk i) i (spm (gw spm wk i) i)) mm (i + 1) t
      rw [his_v hi ht, hy]
      cases t with
      | zero =>
        rw [shift_0, if_pos (by omega), show i + 1 - 1 - 0 = i by omega, vup_at]
      | succ t =>
        rw [shift_s _ _ ht, q1 t (by omega), his_v (by omega) (by omega)]
        by_cases h : t < i
        · rw [if_pos h, if_pos (by omega), vup_ne _ _ (by omega)]
          congr 1 <;> omega
        · rw [if_neg h, if_neg (by omega)]
          congr 1 <;> omega
    · intro j hj
      show vf_upd (g_yy sp mm yy i) i (sp (g_mm sp mm i) i) j = vf_upd (gw spm wk i) i (spm (gw spm wk i) i) j
      rw [hy]
      by_cases h : j = i
      · subst h; rw [vup_at, vup_at]
      · rw [vup_ne _ _ h, vup_ne _ _ h]; exact q2 j (by omega)
theorem mem_eq {sp spm : (Nat → UInt32) → Nat → UInt32} {mm wk : Nat → UInt32} (h : ∀ t, t < 4 → g_mm sp mm 16 t = m_his (gw spm wk 16) mm 16 t) : m_mem mm (gw spm wk 16) = g_mm sp mm 16 := by
  funext t
  by_cases ht : t < 4
  · rw [h t ht, his_v (by omega) ht, if_pos (by omega)]
    rcases (show t = 0 ∨ t = 1 ∨ t = 2 ∨ t = 3 by omega) with rfl | rfl | rfl | rfl <;> rfl
  · rw [mm_hi sp mm (by omega)]
    unfold m_mem vf_upd
    rw [if_neg (by omega), if_neg (by omega), if_neg (by omega), if_neg (by omega)]
theorem cp_lt {g h : Nat → UInt32} {j : Nat} (hj : j < 16) : a_cp g h 16 j = g j := if_pos hj
/-! the coder speaks -/
theorem vl_c {w w' x x' q q' : Nat → UInt32} {st : UInt32} {i : Nat} (hw : ag 4 w w') (hx : x i = x' i) (hq : ∀ t, t < 4 → q t = q' t) : v_l w x st q i = v_l w' x' st q' i := by
  unfold v_l; rw [pred_c hw hq, hx]
theorem vy_c {w w' q q' : Nat → UInt32} {st : UInt32} {x : Int32} (hw : ag 4 w w') (hq : ∀ t, t < 4 → q t = q' t) : v_y w st q x = v_y w' st q' x := by
  unfold v_y; rw [pred_c hw hq]
theorem ag_r (n : Nat) (w : Nat → UInt32) : ag n w w := fun _ _ _ => rfl
theorem sC_c {w x : Nat → UInt32} {st : UInt32} : ∀ q q' i, i < 16 → (∀ t, t < 4 → q t = q' t) → sC w x st q i = sC w x st q' i := by
  intro q q' i _ hq
  show v_y w st q (v_l w x st q i) = v_y w st q' (v_l w x st q' i)
  rw [vl_c (ag_r 4 w) rfl hq, vy_c (ag_r 4 w) hq]
theorem y_eq {w w' q : Nat → UInt32} {st : UInt32} {x : Int32} (hw' : ∀ j, fk 136 (w' j)) (hst : fk 160 st) (hq : ∀ j, fk 143 (q j)) (hag : ag 4 w w') : m_y w' st q x = v_y w st q x := by
  unfold m_y v_y
  rw [clip_eq (my_n hw' hst hq x), pred_c hag (fun _ _ => rfl)]
theorem C_he {w w' xx X mm : Nat → UInt32} {st : UInt32} (hag : ag 4 w w') (hX : ∀ j, j < 16 → X j = xx j) (hw' : ∀ j, fk 136 (w' j)) (hst : fk 160 st) (hg : fg 125 st) (hm : ∀ j, fk 143 (mm j)) :
    ∀ q, (∀ j, fk 143 (q j)) → ∀ i, i < 16 → wC w' X st mm q i = sC w xx st (m_his q mm i) i := by
  intro q hq i hi
  show m_y w' st (m_his q mm i) (m_l w' X st (m_his q mm i) i) = v_y w st (m_his q mm i) (v_l w xx st (m_his q mm i) i)
  rw [y_eq hw' hst (his_k hq hm i) hag, ← vl_eq hst hg, vl_c hag (hX i hi).symm (fun _ _ => rfl)]
theorem D_he {w w' mm : Nat → UInt32} {st : UInt32} {ll lev : Nat → Int32} (hag : ag 4 w w') (hl : ∀ j, j < 16 → ll j = lev j) (hw' : ∀ j, fk 136 (w' j)) (hst : fk 160 st) (hm : ∀ j, fk 143 (mm j)) :
    ∀ q, (∀ j, fk 143 (q j)) → ∀ i, i < 16 → wD w' st mm lev q i = sD w st ll (m_his q mm i) i := by
  intro q hq i hi
  show m_y w' st (m_his q mm i) (lev i) = v_y w st (m_his q mm i) (ll i)
  rw [y_eq hw' hst (his_k hq hm i) hag, hl i hi]
theorem sD_c {w : Nat → UInt32} {st : UInt32} {ll : Nat → Int32} : ∀ q q' i, i < 16 → (∀ t, t < 4 → q t = q' t) → sD w st ll q i = sD w st ll q' i := fun _ _ _ _ hq => vy_c (ag_r 4 w) hq
theorem M_he {w w' mm : Nat → UInt32} (hag : ag 4 w w') (hw' : ∀ j, fk 136 (w' j)) (hm : ∀ j, fk 143 (mm j)) :
    ∀ q, (∀ j, fk 143 (q j)) → ∀ i, i < 16 → wM w' mm q i = sM w (m_his q mm i) i := by
  intro q hq i hi
  show m_clip (FP.fmul (f_pred w' (m_his q mm i)) 1063256064) = f_clip (FP.fmul (f_pred w (m_his q mm i)) 1063256064)
  rw [clip_eq (sM_n hw' (his_k hq hm i)), pred_c hag (fun _ _ => rfl)]
theorem sM_c {w : Nat → UInt32} : ∀ q q' i, i < 16 → (∀ t, t < 4 → q t = q' t) → sM w q i = sM w q' i := by
  intro q q' i _ hq
  show f_clip (FP.fmul (f_pred w q) 1063256064) = f_clip (FP.fmul (f_pred w q') 1063256064)
  rw [pred_c (ag_r 4 w) hq]
/-! levels -/
theorem gll_at {ww xx mm : Nat → UInt32} {st : UInt32} {ll : Nat → Int32} {j : Nat} : ∀ i, j < i → g_ll ww xx st mm ll i j = v_l ww xx st (g_mm (sC ww xx st) mm j) j := by
  intro i
  induction i with
  | zero => intro h; omega
  | succ i ih =>
    intro h
    show upd (g_ll ww xx st mm ll i) i (v_l ww xx st (g_mm (sC ww xx st) mm i) i) j = _
    by_cases hj : j = i
    · subst hj; exact pk_us
    · rw [pk_un hj]; exact ih (by omega)
theorem wll_at {ww xf mm wk : Nat → UInt32} {st : UInt32} {ll : Nat → Int32} {j : Nat} : ∀ i, j < i → w_ll ww xf st mm wk ll i j = m_l ww xf st (m_his (gw (wC ww xf st mm) wk j) mm j) j := by
  intro i
  induction i with
  | zero => intro h; omega
  | succ i ih =>
    intro h
    show upd (w_ll ww xf st mm wk ll i) i (m_l ww xf st (m_his (gw (wC ww xf st mm) wk i) mm i) i) j = _
    by_cases hj : j = i
    · subst hj; exact pk_us
    · rw [pk_un hj]; exact ih (by omega)
theorem ll_eq {w w' xx X mm wk : Nat → UInt32} {st : UInt32} {ll ll' : Nat → Int32} (hag : ag 4 w w') (hX : ∀ j, j < 16 → X j = xx j) (hw' : ∀ j, fk 136 (w' j)) (hst : fk 160 st) (hg : fg 125 st) (hm : ∀ j, fk 143 (mm j)) (hk : ∀ j, fk 143 (wk j)) :
    ∀ j, j < 16 → g_ll w xx st mm ll 16 j = w_ll w' X st mm wk ll' 16 j := by
  intro j hj
  rw [gll_at 16 hj, wll_at 16 hj]
  have h := (speak_eq (yy := mm) (sC_c (w := w) (x := xx) (st := st)) (C_he hag hX hw' hst hg hm) (wC_k hw' hst hm) hk j (by omega)).1
  rw [← vl_eq hst hg, vl_c hag (hX j hj).symm h]
theorem abs_eq (x : Int32) : i_abs x = m_ab x := by
  unfold i_abs m_ab
  rw [Int32.zero_sub]
theorem lmax_0 (ll : Nat → Int32) : ∀ i, 0 ≤ l_max ll i := by
  intro i
  induction i with
  | zero => exact Int32.le_refl _
  | succ i ih =>
    show 0 ≤ (if l_max ll i < i_abs (ll i) then i_abs (ll i) else l_max ll i)
    split
    · rename_i h; exact Int32.le_trans ih (Int32.le_of_lt h)
    · exact ih
theorem cl4_in (x : Int32) : (-4 : Int) ≤ (m_cl (-4) 3 x).toInt ∧ (m_cl (-4) 3 x).toInt ≤ 3 := by
  have e := clamp_in (lo := -4) (hi := 3) (x := x) (by decide)
  rw [← clamp_cl (by decide)] at e
  exact e
theorem in8 {x : Int32} (h : (-4 : Int) ≤ x.toInt ∧ x.toInt ≤ 3) : ∃ j : Nat, j < 8 ∧ x = nI j - 4 := by
  refine ⟨(x.toInt + 4).toNat, by omega, ?_⟩
  apply Int32.toInt_inj.mp
  have e3 : (4 : Int32) = nI 4 := by decide
  rw [e3, pk_sub_toInt (by omega) (by decide)]
  omega
theorem neg_all : ∀ j : Nat, j < 8 → (0 : Int32) ≤ nI j - 4 → -(nI j - 4) ≤ 0 := by decide +kernel
theorem tm_eq {t x : Int32} (ht : 0 ≤ t) (hx : ∃ j : Nat, j < 8 ∧ x = nI j - 4) : m_tm t x = i_max t (i_abs x) := by
  rw [abs_eq]
  unfold m_tm i_max
  by_cases h0 : 0 ≤ x
  · have e : m_ab x = x := if_pos h0
    rw [e]
    by_cases h1 : t < x
    · rw [if_pos h1, if_pos h1]
    · obtain ⟨j, hj, hxj⟩ := hx
      rw [if_neg h1, if_neg h1, if_pos (Int32.le_trans (by rw [hxj] at h0 ⊢; exact neg_all j hj h0) ht)]
  · have e : m_ab x = -x := if_neg h0
    rw [e]
    have h1 : ¬ t < x := fun q => h0 (Int32.le_trans ht (Int32.le_of_lt q))
    rw [if_neg h1]
    by_cases h2 : -x ≤ t
    · rw [if_pos h2, if_neg (Int32.not_lt.mpr h2)]
    · rw [if_neg h2, if_pos (Int32.not_le.mp h2)]
theorem t_eq {w' X mm wk : Nat → UInt32} {st : UInt32} {L ll' : Nat → Int32} (hL : ∀ j, j < 16 → L j = w_ll w' X st mm wk ll' 16 j) : ∀ i, i ≤ 16 → w_t w' X st mm wk i = l_max L i := by
  intro i
  induction i with
  | zero => intro _; rfl
  | succ i ih =>
    intro hi
    show m_tm (w_t w' X st mm wk i) (m_l w' X st (m_his (gw (wC w' X st mm) wk i) mm i) i) = i_max (l_max L i) (i_abs (L i))
    rw [ih (by omega), hL i (by omega), wll_at 16 (show i < 16 by omega)]
    exact tm_eq (lmax_0 _ _) (in8 (cl4_in _))
/-! the bytes of a packet -/
theorem putL_app (b : Int32) : ∀ (L : List Int32) (f : Nat → Int32) (z : Nat), putL f z (L ++ [b]) = upd (putL f z L) (z + L.length) b := by
  intro L
  induction L with
  | nil => intro f z; rfl
  | cons a L ih =>
    intro f z
    show putL (upd f z a) (z + 1) (L ++ [b]) = upd (putL (upd f z a) (z + 1) L) (z + (L.length + 1)) b
    rw [ih, show z + 1 + L.length = z + (L.length + 1) by omega]
theorem putL_lt : ∀ (L : List Int32) (f : Nat → Int32) (z j : Nat), j < z → putL f z L j = f j := by
  intro L
  induction L with
  | nil => intro f z j _; rfl
  | cons a L ih =>
    intro f z j h
    show putL (upd f z a) (z + 1) L j = f j
    rw [ih _ _ _ (by omega), pk_un (by omega)]
theorem putL_at : ∀ (L : List Int32) (f : Nat → Int32) (z k : Nat), k < L.length → putL f z L (z + k) = L[k]?.getD 0 := by
  intro L
  induction L with
  | nil => intro f z k h; cases h
  | cons a L ih =>
    intro f z k h
    show putL (upd f z a) (z + 1) L (z + k) = _
    cases k with
    | zero => rw [putL_lt _ _ _ _ (by omega)]; exact pk_us
    | succ k =>
      rw [show z + (k + 1) = z + 1 + k by omega, ih _ _ _ (by simpa using h)]
      rfl
theorem putL_all {P : Int32 → Prop} : ∀ (L : List Int32) (f : Nat → Int32) (z : Nat), (∀ b ∈ L, P b) → (∀ j, P (f j)) → ∀ j, P (putL f z L j) := by
  intro L
  induction L with
  | nil => intro f z _ h; exact h
  | cons a L ih =>
    intro f z h1 h2
    refine ih _ _ (fun b hb => h1 b (List.mem_cons_of_mem _ hb)) (fun j => ?_)
    show P (upd f z a j)
    unfold upd
    split
    · exact h1 a List.mem_cons_self
    · exact h2 j
theorem msum_put (L : List Int32) (f : Nat → Int32) (z : Nat) : ∀ n, n ≤ L.length → m_sum (putL f z L) z n = (L.take n).foldl (· + ·) 0 := by
  intro n
  induction n with
  | zero => intro _; rfl
  | succ n ih =>
    intro h
    show m_sum (putL f z L) z n + putL f z L (z + n) = _
    rw [ih (by omega), putL_at L f z n (by omega), List.take_succ, List.foldl_append]
    rw [List.getElem?_eq_getElem (by omega)]
    rfl
theorem isum_fold : ∀ (L : List Int32) (x : Int32), i_sum x L = L.foldl (· + ·) x := by
  intro L
  induction L with
  | nil => intro x; rfl
  | cons a L ih => intro x; exact ih _
theorem lev_c {ll ll' : Nat → Int32} (h : ∀ j, j < 16 → ll j = ll' j) {j : Nat} (hj : j < 15) : p_lev ll j = p_lev ll' j := by
  unfold p_lev; rw [h j (by omega), h (j + 1) (by omega)]
theorem mid_c {kc kc' ll ll' : Nat → Int32} (hk : ∀ j, 1 ≤ j → j ≤ 4 → kc j = kc' j) (h : ∀ j, j < 16 → ll j = ll' j) : p_mid kc ll = p_mid kc' ll' := by
  unfold p_mid
  rw [hk 1 (by decide) (by decide), hk 2 (by decide) (by decide), hk 3 (by decide) (by decide), hk 4 (by decide) (by decide), lev_c h (j := 0) (by decide), lev_c h (j := 2) (by decide), lev_c h (j := 4) (by decide), lev_c h (j := 6) (by decide), lev_c h (j := 8) (by decide), lev_c h (j := 10) (by decide), lev_c h (j := 12) (by decide), lev_c h (j := 14) (by decide)]
theorem sum_e (f : Nat → Int32) (z : Nat) (a : Int32) (M : List Int32) (hM : M.length = 12) : m_sum (putL f z (a :: M)) z 13 = i_sum a M := by
  rw [msum_put (a :: M) f z 13 (by simp [hM]), List.take_of_length_le (by simp [hM]), isum_fold, List.foldl_cons, Int32.zero_add]
theorem bytes_g (f : Nat → Int32) (z : Nat) (a : Int32) (M : List Int32) (hM : M.length = 12) : upd (putL f z (a :: M)) (z + 13) (m_sum (putL f z (a :: M)) z 13 &&& 255) = putL f z (a :: (M ++ [i_sum a M &&& 255])) := by
  rw [sum_e f z a M hM]
  have h := putL_app (i_sum a M &&& 255) (a :: M) f z
  rw [List.length_cons, hM] at h
  exact h.symm
theorem bytes_eq {f : Nat → Int32} {z : Nat} {pl pg : Int32} {kc kc' ll ll' : Nat → Int32} (hk : ∀ j, 1 ≤ j → j ≤ 4 → kc j = kc' j) (h : ∀ j, j < 16 → ll j = ll' j) :
    upd (putL f z (e_L pl pg kc' ll')) (z + 13) (m_sum (putL f z (e_L pl pg kc' ll')) z 13 &&& 255) = putL f z (p_all pl pg kc ll) := by
  unfold p_all e_L
  rw [mid_c hk h]
  exact bytes_g f z _ _ rfl
def bOK (b : Int32) : Prop := 0 ≤ b ∧ b ≤ 255
theorem b_of {n : Nat} (h : n < 256) : bOK (nI n) := ⟨nI_pos' (by omega), le_to (N := 255) (by decide) (by omega) (by decide)⟩
theorem first_all : ∀ g : Nat, g < 16 → ∀ pl ∈ ([0, 1] : List Int32), 0 ≤ p_first pl (nI g) ∧ p_first pl (nI g) ≤ 255 := by decide +kernel
theorem lev_all : ∀ a : Nat, a < 8 → ∀ b : Nat, b < 8 → 0 ≤ 8 * (nI a - 4 - (-4)) + (nI b - 4) - (-4) ∧ 8 * (nI a - 4 - (-4)) + (nI b - 4) - (-4) ≤ 255 := by decide +kernel
theorem kc_b {k : Int32} (h : cOK k) : bOK (k + 15) := by
  obtain ⟨j, hj, rfl⟩ := h
  rw [Int32.sub_add_cancel]
  exact b_of (by omega)
theorem and_b (x : Int32) : bOK (x &&& 255) := by
  obtain ⟨j, hj, e⟩ := pk_andE x (m := 255) 8 (by decide)
  rw [e]; exact b_of (by omega)
theorem plev_b {ll : Nat → Int32} (h : ∀ j, j < 16 → ∃ a : Nat, a < 8 ∧ ll j = nI a - 4) {j : Nat} (hj : j < 15) : bOK (p_lev ll j) := by
  obtain ⟨a, ha, e1⟩ := h j (by omega)
  obtain ⟨b, hb, e2⟩ := h (j + 1) (by omega)
  unfold p_lev
  rw [e1, e2]
  exact lev_all a ha b hb
theorem all_b {pl : Int32} {g : Nat} {kc ll : Nat → Int32} (hp : pl = 0 ∨ pl = 1) (hg : g < 16) (hk : ∀ j, 1 ≤ j → j ≤ 4 → cOK (kc j)) (hl : ∀ j, j < 16 → ∃ a : Nat, a < 8 ∧ ll j = nI a - 4) : ∀ b ∈ p_all pl (nI g) kc ll, bOK b := by
  intro b hb
  unfold p_all at hb
  rcases List.mem_cons.mp hb with rfl | hb
  · exact first_all g hg pl (by rcases hp with rfl | rfl <;> decide)
  · rcases List.mem_append.mp hb with hb | hb
    · simp only [p_mid, List.mem_cons, List.not_mem_nil, or_false] at hb
      rcases hb with rfl | rfl | rfl | rfl | rfl | rfl | rfl | rfl | rfl | rfl | rfl | rfl
      · exact kc_b (hk 1 (by decide) (by decide))
      · exact kc_b (hk 2 (by decide) (by decide))
      · exact kc_b (hk 3 (by decide) (by decide))
      · exact kc_b (hk 4 (by decide) (by decide))
      · exact plev_b hl (by decide)
      · exact plev_b hl (by decide)
      · exact plev_b hl (by decide)
      · exact plev_b hl (by decide)
      · exact plev_b hl (by decide)
      · exact plev_b hl (by decide)
      · exact plev_b hl (by decide)
      · exact plev_b hl (by decide)
    · rw [List.mem_singleton.mp hb]; exact and_b _
/-! reading a packet -/
theorem nxt_in {f : Nat → Int32} {z t k : Nat} {K : Int32} (hK : K = nI k) (h : t + k < z) (hz : z ≤ 120) : r_next f (nI z) (nI t) K = f (t + k) := by
  subst hK
  unfold r_next
  rw [nI_add]
  have e : r_has (nI z) (nI (t + k)) = 1 := by
    unfold r_has
    rw [if_neg (nI_pos (by omega)), if_neg (nI_ge h (by omega))]
  rw [e, if_neg (by decide), nI_clamp (by omega)]
theorem b_nat {b : Int32} (h : bOK b) : ∃ n : Nat, n < 256 ∧ b = nI n := by
  obtain ⟨j, hj, e⟩ := nI_of2 (x := b) (M := 255) (n := 255) (by decide) (Int32.not_lt.mpr h.1) h.2
  exact ⟨j, by omega, e⟩
theorem mark_all : ∀ n : Nat, n < 256 → r_mark (nI n) = m_wd (nI n) := by decide +kernel
theorem mark_eq {b : Int32} (h : bOK b) : r_mark b = m_wd b := by
  obtain ⟨n, hn, rfl⟩ := b_nat h
  exact mark_all n hn
theorem wide_all : ∀ n : Nat, n < 256 → ¬ r_mark (nI n) = 0 → nI n &&& 15 = nI (n % 16) ∧ (nI n &&& (-129)) - 16 = nI (n % 16) ∧ p_lin (nI n) = m_hi (nI n) ∧ ¬ nI n = 0 ∧ (m_hi (nI n) = 0 ∨ m_hi (nI n) = 1) := by decide +kernel
theorem wide_eq {b : Int32} (h : bOK b) (hm : ¬ r_mark b = 0) : ∃ g : Nat, g < 16 ∧ b &&& 15 = nI g ∧ (b &&& (-129)) - 16 = nI g ∧ p_lin b = m_hi b ∧ ¬ b = 0 ∧ (m_hi b = 0 ∨ m_hi b = 1) := by
  obtain ⟨n, hn, rfl⟩ := b_nat h
  obtain ⟨e1, e2, e3, e4, e5⟩ := wide_all n hn hm
  exact ⟨n % 16, by omega, e1, e2, e3, e4, e5⟩
theorem rsum_eq {f : Nat → Int32} {z t : Nat} (h : t + 14 ≤ z) (hz : z ≤ 120) : ∀ k, k ≤ 13 → r_sum f (nI z) (nI t) k = m_sum f t k := by
  intro k
  induction k with
  | zero => intro _; rfl
  | succ k ih =>
    intro hk
    show r_sum f (nI z) (nI t) k + r_next f (nI z) (nI t) (nI k) = m_sum f t k + f (t + k)
    rw [ih (by omega), nxt_in rfl (by omega) hz]
theorem chk_lo {f : Nat → Int32} {z t m : Nat} (h : t + 14 ≤ z) (hz : z ≤ 120) : ∀ n i, i + n ≤ 5 → m_chk f t (n + m) i = (r_chk f (nI z) (nI t) 30 n i && m_chk f t m (i + n)) := by
  intro n
  induction n with
  | zero => intro i _; rw [Nat.zero_add]; rfl
  | succ n ih =>
    intro i hi
    have e : m_lim i = 30 := if_neg (lt_no (N := 5) (by decide) (by omega) (by decide))
    rw [show n + 1 + m = (n + m) + 1 by omega]
    show (if f (t + i) ≤ m_lim i then m_chk f t (n + m) (i + 1) else false) = ((if r_next f (nI z) (nI t) (nI i) ≤ 30 then r_chk f (nI z) (nI t) 30 n (i + 1) else false) && m_chk f t m (i + (n + 1)))
    rw [nxt_in rfl (by omega) hz, e]
    by_cases hc : f (t + i) ≤ 30
    · rw [if_pos hc, if_pos hc, ih (i + 1) (by omega), show i + 1 + n = i + (n + 1) by omega]
    · rw [if_neg hc, if_neg hc]; rfl
theorem chk_hi {f : Nat → Int32} {z t : Nat} (h : t + 14 ≤ z) (hz : z ≤ 120) : ∀ n i, 5 ≤ i → i + n ≤ 13 → m_chk f t n i = r_chk f (nI z) (nI t) 63 n i := by
  intro n
  induction n with
  | zero => intro i _ _; rfl
  | succ n ih =>
    intro i h5 hi
    have e : m_lim i = 63 := if_pos (le_of (N := 5) (by decide) h5 (by omega))
    show (if f (t + i) ≤ m_lim i then m_chk f t n (i + 1) else false) = (if r_next f (nI z) (nI t) (nI i) ≤ 63 then r_chk f (nI z) (nI t) 63 n (i + 1) else false)
    rw [nxt_in rfl (by omega) hz, e, ih (i + 1) (by omega) (by omega)]
theorem sound_eq {f : Nat → Int32} {z t : Nat} (h : t + 14 ≤ z) (hz : z ≤ 120) (hm : ¬ r_mark (f t) = 0) : r_sound f (nI z) (nI t) = m_sound f t := by
  unfold r_sound m_sound
  rw [nxt_in (k := 0) (by decide) (by omega) hz, nxt_in (k := 13) (by decide) (by omega) hz, rsum_eq h hz 13 (by decide), if_neg (show ¬ r_mark (f (t + 0)) = 0 from hm)]
  rw [show m_chk f t 12 1 = (r_chk f (nI z) (nI t) 30 4 1 && m_chk f t 8 5) from chk_lo (m := 8) h hz 4 1 (by decide), chk_hi h hz 8 5 (by decide) (by decide)]
  by_cases hs : m_sum f t 13 &&& 255 = f (t + 13)
  · rw [if_pos hs, if_pos hs.symm]
    cases r_chk f (nI z) (nI t) 30 4 1 <;> cases r_chk f (nI z) (nI t) 63 8 5 <;> rfl
  · rw [if_neg hs, if_neg (fun q => hs q.symm)]
theorem sub4 (x : Int32) : x - 4 = x + (-4) := by rw [Int32.sub_eq_add_neg]
theorem dll_eq {f ll : Nat → Int32} {z t : Nat} (h : t + 14 ≤ z) (hz : z ≤ 120) : ∀ j, j < 16 → d_ll ll f (nI z) (nI t) j = m_rl f t j := by
  intro j hj
  have e : ∀ {k : Nat} {K : Int32}, K = nI k → k < 14 → r_next f (nI z) (nI t) K = f (t + k) := fun hK hk => nxt_in hK (by omega) hz
  have hp := putL_at (p_rd f (nI z) (nI t)) ll 0 j hj
  rw [Nat.zero_add] at hp
  show putL ll 0 (p_rd f (nI z) (nI t)) j = m_lv (f (t + 5 + j / 2)) j - 4
  rw [hp, sub4]
  unfold p_rd
  rw [e (k := 5) (by decide) (by decide), e (k := 6) (by decide) (by decide), e (k := 7) (by decide) (by decide), e (k := 8) (by decide) (by decide), e (k := 9) (by decide) (by decide), e (k := 10) (by decide) (by decide), e (k := 11) (by decide) (by decide), e (k := 12) (by decide) (by decide)]
  rcases (show j = 0 ∨ j = 1 ∨ j = 2 ∨ j = 3 ∨ j = 4 ∨ j = 5 ∨ j = 6 ∨ j = 7 ∨ j = 8 ∨ j = 9 ∨ j = 10 ∨ j = 11 ∨ j = 12 ∨ j = 13 ∨ j = 14 ∨ j = 15 by omega) with rfl | rfl | rfl | rfl | rfl | rfl | rfl | rfl | rfl | rfl | rfl | rfl | rfl | rfl | rfl | rfl <;> rfl
theorem ak_ag (ww wp : Nat → UInt32) : ag 4 (m_ak ww wp) wp := by
  intro j h1 h2
  rcases (show j = 1 ∨ j = 2 ∨ j = 3 ∨ j = 4 by omega) with rfl | rfl | rfl | rfl <;> rfl
theorem ag_t {n : Nat} {a b c : Nat → UInt32} (h1 : ag n a b) (h2 : ag n b c) : ag n a c := fun j q1 q2 => (h1 j q1 q2).trans (h2 j q1 q2)
theorem ag_s {n : Nat} {a b : Nat → UInt32} (h1 : ag n a b) : ag n b a := fun j q1 q2 => (h1 j q1 q2).symm
theorem dW_ag {ww ww' : Nat → UInt32} {f : Nat → Int32} {z t : Nat} (h : t + 14 ≤ z) (hz : z ≤ 120) : ag 4 (d_W ww f (nI z) (nI t)) (m_rW ww' f t) := by
  unfold d_W m_rW
  rw [nxt_in (k := 1) (by decide) (by omega) hz, nxt_in (k := 2) (by decide) (by omega) hz, nxt_in (k := 3) (by decide) (by omega) hz, nxt_in (k := 4) (by decide) (by omega) hz]
  exact lpc_ag _ _ _ _ _ _
