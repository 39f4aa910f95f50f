/-! WHERE THE TWO OBJECTS STAND ALIKE, AND THAT EVERY CALL KEEPS IT -/
abbrev FK (K : Nat) (g : Nat → UInt32) : Prop := ∀ j, fk K (g j)
def RL (a z t : Nat) (lb sp sp2 : Int32) (xx mm mm2 : Nat → UInt32) (f : Nat → Int32) (yy yy2 rr ww ww2 : Nat → UInt32) (pg : Int32) (kc ll : Nat → Int32) (xf wk yc yd wa wp rM : Nat → UInt32) (td : Nat → Int32) : Prop :=
  ((a ≤ 48 ∧ z ≤ 120 ∧ t ≤ z) ∧ (lb = 0 ∨ lb = 1) ∧ (∀ j, bOK (f j))) ∧
  (FK 143 xx ∧ FK 143 mm ∧ FK 143 mm2 ∧ FK 143 yy ∧ FK 143 yy2 ∧ FK 143 xf ∧ FK 143 wk ∧ FK 143 yc ∧ FK 143 yd) ∧
  (FK 136 ww ∧ FK 136 ww2 ∧ FK 136 wa ∧ FK 136 wp ∧ FK 192 rr ∧ FK 192 rM) ∧
  ((sp = 0 ∨ ∀ j, j < 16 → yy j = yc j) ∧ (sp2 = 0 ∨ ∀ j, j < 16 → yy2 j = yd j) ∧ ag 4 ww2 wp) ∧
  (td 0 = pg ∧ (∀ j, 1 ≤ j → j ≤ 4 → td j = kc j) ∧ td 5 = l_max ll 16 ∧ td 6 = FP.f2i (FP.fmul (ww 1) 1199570944))
def RS (cF cI : ClassId) (hx hm : Nat) (th : Int32) (WC WM : va_W) : Prop :=
  ∃ (ad bd : Nat → Nat) (a z t : Nat) (lb np nd ns nu sp sp2 pl pg pl2 pg2 : Int32) (xx mm mm2 yy yy2 rr ww ww2 xf wk yc yd wa wo wp rM : Nat → UInt32) (f kc ll kc2 ll2 lM kM td : Nat → Int32),
    ad 0 = hx ∧ bd 0 = hm ∧ WC = WCl cF cI ad (nI a) lb xx (nI z) (nI t) f np mm yy sp pl pg kc ww ll rr nd ns nu mm2 yy2 sp2 pl2 pg2 kc2 ww2 ll2 ∧ WM = WMo cF cI bd (nI a) (nI z) (nI t) np nd ns nu th lb sp sp2 xx xf wk yc yd mm mm2 wa wo wp rM f lM kM td ∧ RL a z t lb sp sp2 xx mm mm2 f yy yy2 rr ww ww2 pg kc ll xf wk yc yd wa wp rM td
theorem RS_mk {cF cI : ClassId} {ad bd : Nat → Nat} {a z t : Nat} {th rs rd ln tt : Int32} {lb np nd ns nu sp sp2 pl pg pl2 pg2 : Int32} {xx mm mm2 yy yy2 rr ww ww2 xf wk yc yd wa wo wp rM mmM mm2M : Nat → UInt32} {f kc ll kc2 ll2 lM kM td fM : Nat → Int32} (h1 : rs = nI z) (h2 : rd = nI t) (h3 : ln = nI z) (h4 : tt = nI t) (h5 : mmM = mm) (h6 : mm2M = mm2) (h7 : fM = f) (h : RL a z t lb sp sp2 xx mm mm2 f yy yy2 rr ww ww2 pg kc ll xf wk yc yd wa wp rM td) :
    RS cF cI (ad 0) (bd 0) th (WCl cF cI ad (nI a) lb xx rs rd f np mm yy sp pl pg kc ww ll rr nd ns nu mm2 yy2 sp2 pl2 pg2 kc2 ww2 ll2) (WMo cF cI bd (nI a) ln tt np nd ns nu th lb sp sp2 xx xf wk yc yd mmM mm2M wa wo wp rM fM lM kM td) := by
  subst h1 h2 h3 h4 h5 h6 h7
  exact ⟨ad, bd, a, z, t, _, _, _, _, _, _, _, _, _, _, _, _, _, _, _, _, _, _, _, _, _, _, _, _, _, _, _, _, _, _, _, _, _, _, _, rfl, rfl, rfl, rfl, h⟩
abbrev StJ (l : Launch) (D : va_G) (cF cI cJ cD : ClassId) (hx hm : Nat) (yL : MethodName) (cdL : Cond) (yM : MethodName) (cdM : Cond) (as : List Value) (WC WM : va_W) : Prop :=
  ∃ (k v b : Int32) (W1 : va_W) (P2 : va_W → Prop), (∀ (o : Nat) (f : Nat → Int64), HJ l D cF cI cJ cD yL cdL (.ref hx :: (as ++ [.ref o])) WC o f k v (fun z => z = W1)) ∧ CI l D cF cI yM cdM (.ref hm :: as) WM b P2 ∧ (∀ W2, P2 W2 → RS cF cI hx hm k W1 W2) ∧ (k = 0 → v = b)
abbrev StD (l : Launch) (D : va_G) (cF cI cJ cD : ClassId) (hx hm : Nat) (yL : MethodName) (cdL : Cond) (yM : MethodName) (cdM : Cond) (as : List Value) (WC WM : va_W) : Prop :=
  ∃ (k : Int32) (v b : UInt64) (W1 : va_W) (P2 : va_W → Prop), (∀ (o : Nat) (f : Nat → UInt64), HD l D cF cI cJ cD yL cdL (.ref hx :: (as ++ [.ref o])) WC o f k v (fun z => z = W1)) ∧ CD l D cF cI yM cdM (.ref hm :: as) WM b P2 ∧ (∀ W2, P2 W2 → RS cF cI hx hm k W1 W2) ∧ (k = 0 → v = b)
abbrev StI (l : Launch) (D : va_G) (cF cI : ClassId) (hx hm : Nat) (yC : MethodName) (cdC : Cond) (yM : MethodName) (cdM : Cond) (as : List Value) (WC WM : va_W) : Prop :=
  ∃ (r : Int32) (W1 : va_W) (P2 : va_W → Prop), CI l D cF cI yC cdC (.ref hx :: as) WC r (fun z => z = W1) ∧ CI l D cF cI yM cdM (.ref hm :: as) WM r P2 ∧ ∀ W2, P2 W2 → RS cF cI hx hm 0 W1 W2
/-! small things -/
theorem i0 : (0 : Int32).toInt = 0 := by decide
theorem in_out {k lo hi : Int32} (h : k.toInt < lo.toInt ∨ hi.toInt < k.toInt) : m_in k lo hi = 0 := by
  unfold m_in
  by_cases h2 : k < lo
  · rw [if_pos h2]
  · rcases h with h | h
    · exact absurd (Int32.lt_iff_toInt_lt.mpr h) h2
    · rw [if_neg h2, if_pos (Int32.lt_iff_toInt_lt.mpr h)]
theorem in_in {k lo hi : Int32} (h1 : lo.toInt ≤ k.toInt) (h2 : k.toInt ≤ hi.toInt) : ¬ m_in k lo hi = 0 := by
  unfold m_in
  rw [if_neg (fun q => by rw [Int32.lt_iff_toInt_lt] at q; omega), if_neg (fun q => by rw [Int32.lt_iff_toInt_lt] at q; omega)]
  decide
theorem has_0 {rs k : Int32} (h : r_has rs k = 0) : k.toInt < 0 ∨ rs.toInt ≤ k.toInt := by
  unfold r_has at h
  by_cases h1 : k < 0
  · have := Int32.lt_iff_toInt_lt.mp h1
    rw [i0] at this
    exact Or.inl this
  · by_cases h2 : rs ≤ k
    · exact Or.inr (Int32.le_iff_toInt_le.mp h2)
    · rw [if_neg h1, if_neg h2] at h
      exact absurd h (by decide)
theorem has_1 {rs k : Int32} (h : ¬ r_has rs k = 0) : 0 ≤ k.toInt ∧ k.toInt < rs.toInt := by
  unfold r_has at h
  by_cases h1 : k < 0
  · rw [if_pos h1] at h
    exact absurd rfl h
  · by_cases h2 : rs ≤ k
    · rw [if_neg h1, if_pos h2] at h
      exact absurd rfl h
    · rw [Int32.lt_iff_toInt_lt, i0] at h1
      rw [Int32.le_iff_toInt_le] at h2
      omega
theorem k7 (k : Int32) : (k.toInt < 0 ∨ 6 < k.toInt) ∨ k = 0 ∨ k = 1 ∨ k = 2 ∨ k = 3 ∨ k = 4 ∨ k = 5 ∨ k = 6 := by
  by_cases h : k.toInt < 0 ∨ 6 < k.toInt
  · exact Or.inl h
  · have h2 : k.toInt = 0 ∨ k.toInt = 1 ∨ k.toInt = 2 ∨ k.toInt = 3 ∨ k.toInt = 4 ∨ k.toInt = 5 ∨ k.toInt = 6 := by omega
    refine Or.inr ?_
    rcases h2 with e | e | e | e | e | e | e
    · exact Or.inl (Int32.toInt_inj.mp (e.trans (by decide)))
    · exact Or.inr (Or.inl (Int32.toInt_inj.mp (e.trans (by decide))))
    · exact Or.inr (Or.inr (Or.inl (Int32.toInt_inj.mp (e.trans (by decide)))))
    · exact Or.inr (Or.inr (Or.inr (Or.inl (Int32.toInt_inj.mp (e.trans (by decide))))))
    · exact Or.inr (Or.inr (Or.inr (Or.inr (Or.inl (Int32.toInt_inj.mp (e.trans (by decide)))))))
    · exact Or.inr (Or.inr (Or.inr (Or.inr (Or.inr (Or.inl (Int32.toInt_inj.mp (e.trans (by decide))))))))
    · exact Or.inr (Or.inr (Or.inr (Or.inr (Or.inr (Or.inr (Int32.toInt_inj.mp (e.trans (by decide))))))))
theorem out7 {k : Int32} (h : k.toInt < 0 ∨ 6 < k.toInt) : m_in k 0 6 = 0 := in_out h
theorem room_no {z k : Nat} {M : Int32} (hM : M = nI k) (hz : z ≤ 120) (h : ¬ z + k ≤ 120) (hk : k < 2147483648) : ¬ M ≤ 120 - nI z := by
  rw [show (120 : Int32) = nI 120 from (by decide), pk_sub hz]
  exact lt_up hM (by omega) hk
theorem fill_k {K : Nat} {g : Nat → UInt32} {n : Nat} (h : FK K g) (hK : 1 ≤ K) : FK K (a_fill g FP.fconst0 n) := fun j => by
  unfold a_fill
  split
  · exact k_c0 hK
  · exact h j
theorem cpy_k {K : Nat} {g : Nat → UInt32} {n : Nat} (h : FK K g) : FK K (va_cpy g g 16 0 n) := fun j => by
  unfold va_cpy
  split
  · exact h _
  · exact h _
theorem upd_b {f : Nat → Int32} {n : Nat} {b : Int32} (h : ∀ j, bOK (f j)) (hb : bOK b) : ∀ j, bOK (upd f n b j) := fun j => by
  unfold upd
  split
  · exact hb
  · exact h j
theorem b_z : bOK 0 := ⟨by decide, by decide⟩
theorem sil_mm (mm wk : Nat → UInt32) : m_mem mm (a_fill wk FP.fconst0 16) = a_fill mm FP.fconst0 4 := by
  funext j
  unfold m_mem
  by_cases h3 : j = 3
  · subst h3; rfl
  · by_cases h2 : j = 2
    · subst h2; rfl
    · by_cases h1 : j = 1
      · subst h1; rfl
      · by_cases h0 : j = 0
        · subst h0; rfl
        · rw [vup_ne _ _ h3, vup_ne _ _ h2, vup_ne _ _ h1, vup_ne _ _ h0]
          unfold a_fill
          rw [if_neg (by omega)]
theorem res_mm (mm : Nat → UInt32) : vf_upd (vf_upd (vf_upd (vf_upd mm 0 FP.fconst0) 1 FP.fconst0) 2 FP.fconst0) 3 FP.fconst0 = a_fill mm FP.fconst0 4 := by
  funext j
  by_cases h3 : j = 3
  · subst h3; rfl
  · by_cases h2 : j = 2
    · subst h2; rfl
    · by_cases h1 : j = 1
      · subst h1; rfl
      · by_cases h0 : j = 0
        · subst h0; rfl
        · rw [vup_ne _ _ h3, vup_ne _ _ h2, vup_ne _ _ h1, vup_ne _ _ h0]
          unfold a_fill
          rw [if_neg (by omega)]
theorem sil_yy {yy wk yc : Nat → UInt32} : ∀ j, j < 16 → a_fill yy FP.fconst0 16 j = a_cp (a_fill wk FP.fconst0 16) yc 16 j := fun j hj => by
  rw [cp_lt hj]
  unfold a_fill
  rw [if_pos hj, if_pos hj]
theorem mem_k {mm wk : Nat → UInt32} (h : FK 143 mm) (hw : FK 143 wk) : FK 143 (m_mem mm wk) := vup_k (vup_k (vup_k (vup_k h (hw _)) (hw _)) (hw _)) (hw _)
theorem gyy_k {sp : (Nat → UInt32) → Nat → UInt32} {mm yy : Nat → UInt32} (hs : ∀ q, (∀ j, fk 143 (q j)) → ∀ i, fk 143 (sp q i)) (hm : FK 143 mm) (hy : FK 143 yy) : ∀ i, FK 143 (g_yy sp mm yy i) := by
  intro i
  induction i with
  | zero => exact hy
  | succ i ih => exact vup_k ih (hs _ (mm_k hs hm i) i)
theorem lmax_z (ll : Nat → Int32) : ∀ i, i ≤ 16 → l_max (a_fill ll 0 16) i = 0 := by
  intro i
  induction i with
  | zero => intro _; rfl
  | succ i ih =>
    intro hi
    show i_max (l_max (a_fill ll 0 16) i) (i_abs (a_fill ll 0 16 i)) = 0
    rw [ih (by omega), show a_fill ll 0 16 i = 0 from if_pos (by omega)]
    decide
theorem told_0 (td : Nat → Int32) (t g : Int32) (kc : Nat → Int32) (a1 : UInt32) : m_told td t g kc a1 0 = g := rfl
theorem told_1 (td : Nat → Int32) (t g : Int32) (kc : Nat → Int32) (a1 : UInt32) : ∀ j, 1 ≤ j → j ≤ 4 → m_told td t g kc a1 j = kc j := by
  intro j h1 h4
  rcases (show j = 1 ∨ j = 2 ∨ j = 3 ∨ j = 4 by omega) with rfl | rfl | rfl | rfl <;> rfl
theorem told_5 (td : Nat → Int32) (t g : Int32) (kc : Nat → Int32) (a1 : UInt32) : m_told td t g kc a1 5 = t := rfl
theorem told_6 (td : Nat → Int32) (t g : Int32) (kc : Nat → Int32) (a1 : UInt32) : m_told td t g kc a1 6 = FP.f2i (FP.fmul a1 1199570944) := rfl
theorem eR_0 (rr xx xf : Nat → UInt32) : e_R rr xx xf 0 = f_ac (e_X xx xf) 0 16 := rfl
theorem like_0 (rr xx : Nat → UInt32) : f_like rr xx 0 = f_ac xx 0 16 := rfl
theorem eK_n (kc : Nat → Int32) (ww rr xx xf : Nat → UInt32) : e_K kc ww rr xx xf = n_K kc ww (e_R rr xx xf) := rfl
theorem eW_n (ww rr xx xf : Nat → UInt32) : e_W ww rr xx xf = n_W ww (e_R rr xx xf) := rfl
theorem l_in {ww xf q : Nat → UInt32} {st : UInt32} {i : Nat} : ∃ a : Nat, a < 8 ∧ m_l ww xf st q i = nI a - 4 := in8 (cl4_in _)
theorem told_z : FP.f2i (FP.fmul FP.fconst0 1199570944) = 0 := by decide +kernel
theorem tkc_ok {kc : Nat → Int32} {ww rr : Nat → UInt32} : ∀ j, 1 ≤ j → j ≤ 4 → cOK (t_kc kc ww rr j) := by
  intro j h1 h4
  rcases (show j = 1 ∨ j = 2 ∨ j = 3 ∨ j = 4 by omega) with rfl | rfl | rfl | rfl
  · show cOK (c_k _ _); exact rnd_ok _
  · show cOK (c_k _ _); exact rnd_ok _
  · show cOK (c_k _ _); exact rnd_ok _
  · show cOK (c_k _ _); exact rnd_ok _
set_option maxRecDepth 100000 in
theorem rs_sample {l : Launch} {D : va_G} {cF cI cJ cD : ClassId} {hx hm : Nat} {th : Int32} {WC WM : va_W} (hl0 : l.stackTraces = false) (h : RS cF cI hx hm th WC WM) (v : UInt64) : StJ l D cF cI cJ cD hx hm yLaw_sample (.codeWith yLaw_sample cLaw_sample 5 (some .int) [(0, 9, 12, 13), (0, 9, 16, 15)]) yMod_sample (.code yMod_sample cMod_sample 3 (some .int)) [.double v] WC WM := by
  obtain ⟨ad, bd, a, z, t, lb, np, nd, ns, nu, sp, sp2, pl, pg, pl2, pg2, xx, mm, mm2, yy, yy2, rr, ww, ww2, xf, wk, yc, yd, wa, wo, wp, rM, f, kc, ll, kc2, ll2, lM, kM, td, rfl, rfl, rfl, rfl, hR⟩ := h
  have hR0 := hR
  obtain ⟨⟨⟨ha, hz, ht⟩, hlb, hb⟩, ⟨hxx, hmm, hmm2, hyy, hyy2, hxf, hwk, hyc, hyd⟩, ⟨hww, hww2, hwa, hwp, hrr, hrM⟩, ⟨hs1, hs2, hag⟩, ht0, ht1, ht5, ht6⟩ := hR
  by_cases hd1 : Op.cmpValue (FP.dcmp v 13898108450065350656) .l < 0
  · exact ⟨1, 0, 0, _, _, fun o f => h_sample_1 _ rfl (kx_VF_sample_A hl0 (Or.inl hd1)) o f 0, k_Mod_sample_A (Or.inl hd1), fun W2 h2 => by rcases h2 with rfl; exact RS_mk rfl rfl rfl rfl rfl rfl rfl hR0, fun h => absurd h (by decide)⟩
  · by_cases hd2 : 0 < Op.cmpValue (FP.dcmp v 4674736138332667904) .g
    · exact ⟨1, 0, 0, _, _, fun o f => h_sample_1 _ rfl (kx_VF_sample_A hl0 (Or.inr hd2)) o f 0, k_Mod_sample_A (Or.inr hd2), fun W2 h2 => by rcases h2 with rfl; exact RS_mk rfl rfl rfl rfl rfl rfl rfl hR0, fun h => absurd h (by decide)⟩
    · by_cases h48 : a < 48
      · exact ⟨0, (nI (a + 1)), (nI (a + 1)), _, _, fun o f => h_sample_R _ rfl (k_VF_sample_R hd1 hd2 h48) o f, k_Mod_sample_R hd1 hd2 h48, fun W2 h2 => by rcases h2 with rfl; exact RS_mk rfl rfl rfl rfl rfl rfl rfl ⟨⟨⟨by omega, hz, ht⟩, hlb, hb⟩, ⟨vup_k hxx (smp_k hd1 hd2), hmm, hmm2, hyy, hyy2, hxf, hwk, hyc, hyd⟩, ⟨hww, hww2, hwa, hwp, hrr, hrM⟩, ⟨hs1, hs2, hag⟩, ht0, ht1, ht5, ht6⟩, fun _ => rfl⟩
      · obtain rfl : a = 48 := by omega
        exact ⟨2, 0, 0, _, _, fun o f => h_sample_2 _ rfl (kx_VF_sample_B hl0 hd1 hd2 (by decide)) o f 0, k_Mod_sample_B hd1 hd2 (by decide), fun W2 h2 => by rcases h2 with rfl; exact RS_mk rfl rfl rfl rfl rfl rfl rfl hR0, fun h => absurd h (by decide)⟩
theorem rs_linear {l : Launch} {D : va_G} {cF cI cJ cD : ClassId} {hx hm : Nat} {th : Int32} {WC WM : va_W} (h : RS cF cI hx hm th WC WM) (b : Int32) (h01 : b = 0 ∨ b = 1) : StI l D cF cI hx hm yVF_linear (.code yVF_linear cVF_linear 3 (some .boolean)) yMod_linear (.code yMod_linear cMod_linear 3 (some .boolean)) [.int b] WC WM := by
  obtain ⟨ad, bd, a, z, t, lb, np, nd, ns, nu, sp, sp2, pl, pg, pl2, pg2, xx, mm, mm2, yy, yy2, rr, ww, ww2, xf, wk, yc, yd, wa, wo, wp, rM, f, kc, ll, kc2, ll2, lM, kM, td, rfl, rfl, rfl, rfl, hR⟩ := h
  have hR0 := hR
  obtain ⟨⟨⟨ha, hz, ht⟩, hlb, hb⟩, ⟨hxx, hmm, hmm2, hyy, hyy2, hxf, hwk, hyc, hyd⟩, ⟨hww, hww2, hwa, hwp, hrr, hrM⟩, ⟨hs1, hs2, hag⟩, ht0, ht1, ht5, ht6⟩ := hR
  exact ⟨lb, _, _, k_VF_linear hlb h01, k_Mod_linear hlb h01, fun W2 h2 => by rcases h2 with rfl; exact RS_mk rfl rfl rfl rfl rfl rfl rfl ⟨⟨⟨ha, hz, ht⟩, h01, hb⟩, ⟨hxx, hmm, hmm2, hyy, hyy2, hxf, hwk, hyc, hyd⟩, ⟨hww, hww2, hwa, hwp, hrr, hrM⟩, ⟨hs1, hs2, hag⟩, ht0, ht1, ht5, ht6⟩⟩
set_option maxRecDepth 100000 in
theorem rs_encode {l : Launch} {D : va_G} {cF cI cJ cD : ClassId} {hx hm : Nat} {th : Int32} {WC WM : va_W} (hl0 : l.stackTraces = false) (h : RS cF cI hx hm th WC WM) : StJ l D cF cI cJ cD hx hm yLaw_encode (.codeWith yLaw_encode cLaw_encode 3 (some .int) [(0, 8, 11, 15), (0, 8, 14, 21)]) yMod_encode (.code yMod_encode cMod_encode 6 (some .int)) [] WC WM := by
  obtain ⟨ad, bd, a, z, t, lb, np, nd, ns, nu, sp, sp2, pl, pg, pl2, pg2, xx, mm, mm2, yy, yy2, rr, ww, ww2, xf, wk, yc, yd, wa, wo, wp, rM, f, kc, ll, kc2, ll2, lM, kM, td, rfl, rfl, rfl, rfl, hR⟩ := h
  have hR0 := hR
  obtain ⟨⟨⟨ha, hz, ht⟩, hlb, hb⟩, ⟨hxx, hmm, hmm2, hyy, hyy2, hxf, hwk, hyc, hyd⟩, ⟨hww, hww2, hwa, hwp, hrr, hrM⟩, ⟨hs1, hs2, hag⟩, ht0, ht1, ht5, ht6⟩ := hR
  have hac : f_ac (e_X xx xf) 0 16 = f_ac xx 0 16 := ac_c (eX_c xx xf) 0 16 (Nat.le_refl _)
  by_cases h16 : 16 ≤ a
  · have hni : (16 : Int32) ≤ nI a := le_of (N := 16) (by decide) h16 (by omega)
    by_cases hq : 0 ≤ Op.cmpValue (FP.fcmp (f_ac xx 0 16) FP.fconst1) .g
    · have hms : m_size (f_ac xx 0 16) = 14 := if_pos hq
      have hq2 : 0 ≤ Op.cmpValue (FP.fcmp (f_ac (e_X xx xf) 0 16) FP.fconst1) .g := by rw [hac]; exact hq
      by_cases hz14 : z + 14 ≤ 120
      · have hrk : ∀ j, fk 192 (e_R rM xx xf j) := eR_k hrM hxx hxf
        have h0g : fg 127 (e_R rM xx xf 0) := by
          rw [eR_0]
          exact one_g (by rw [← eR_0 rM]; exact fk_nn (hrk 0) (by decide)) hq2
        have hr : ∀ j, j ≤ 4 → f_like rr xx j = e_R rM xx xf j := like_c (eX_c xx xf)
        have hWk := eW_k (ww := wa) (rr := rM) (xx := xx) (xf := xf) hwa
        have hXk := eX_k hxx hxf
        have hagW : ag 4 (t_W ww (f_like rr xx)) (e_W wa rM xx xf) := by rw [eW_n]; exact tW_ag hr hrk h0g
        have hX := eX_c xx xf
        have hGl := eG_lt lb wa rM xx xf
        have hG : t_G lb (t_W ww (f_like rr xx)) xx = nI (e_G lb wa rM xx xf) := by
          unfold t_G e_G
          rw [rest_c hagW (fun j hj => (hX j hj).symm) 16 (Nat.le_refl _), ← (rest_eq hWk hXk 16 (Nat.le_refl _)).1]
          exact sc_eq2 15 (Nat.le_refl _)
        have hst : f_step lb (t_G lb (t_W ww (f_like rr xx)) xx) = m_step lb (e_G lb wa rM xx xf) := by rw [hG]; exact (step_eq hGl).symm
        have hsk : fk 160 (m_step lb (e_G lb wa rM xx xf)) := ms_k (by omega)
        have hsg : fg 125 (m_step lb (e_G lb wa rM xx xf)) := ms_g hlb hGl
        have hsp := speak_eq (yy := yy) (sC_c (w := t_W ww (f_like rr xx)) (x := xx) (st := m_step lb (e_G lb wa rM xx xf))) (C_he hagW hX hWk hsk hsg hmm) (wC_k hWk hsk hmm) hwk 16 (Nat.le_refl _)
        have hll := ll_eq (ll := ll) (ll' := lM) hagW hX hWk hsk hsg hmm hwk
        have hkc : ∀ j, 1 ≤ j → j ≤ 4 → t_kc kc ww (f_like rr xx) j = e_K kM wa rM xx xf j := by rw [eK_n]; exact tk_c hr hrk h0g
        have htW := t_W_k (rr := f_like rr xx) hww
        have hsCk := sC_k (ww := t_W ww (f_like rr xx)) (xx := xx) htW hsk
        have hgk := gw_k (wC_k (xf := e_X xx xf) hWk hsk hmm) hwk
        have h5 : m_mem mm (gw (wC (e_W wa rM xx xf) (e_X xx xf) (m_step lb (e_G lb wa rM xx xf)) mm) wk 16) = g_mm (sC (t_W ww (f_like rr xx)) xx (f_step lb (t_G lb (t_W ww (f_like rr xx)) xx))) mm 16 := by rw [hst]; exact mem_eq hsp.1
        have h7 : upd (putL f z (e_L lb (nI (e_G lb wa rM xx xf)) (e_K kM wa rM xx xf) (w_ll (e_W wa rM xx xf) (e_X xx xf) (m_step lb (e_G lb wa rM xx xf)) mm wk lM 16))) (z + 13) (m_sum (putL f z (e_L lb (nI (e_G lb wa rM xx xf)) (e_K kM wa rM xx xf) (w_ll (e_W wa rM xx xf) (e_X xx xf) (m_step lb (e_G lb wa rM xx xf)) mm wk lM 16))) z 13 &&& 255) = putL f z (p_all lb (t_G lb (t_W ww (f_like rr xx)) xx) (t_kc kc ww (f_like rr xx)) (g_ll (t_W ww (f_like rr xx)) xx (f_step lb (t_G lb (t_W ww (f_like rr xx)) xx)) mm ll 16)) := by
          rw [hst, hG]
          exact bytes_eq hkc hll
        have hb2 : ∀ j, bOK (putL f z (p_all lb (t_G lb (t_W ww (f_like rr xx)) xx) (t_kc kc ww (f_like rr xx)) (g_ll (t_W ww (f_like rr xx)) xx (f_step lb (t_G lb (t_W ww (f_like rr xx)) xx)) mm ll 16)) j) := by
          rw [hst, hG]
          exact putL_all _ _ _ (all_b hlb hGl tkc_ok (fun j hj => by rw [hll j hj, wll_at 16 hj]; exact l_in)) hb
        have hm2 : FK 143 (g_mm (sC (t_W ww (f_like rr xx)) xx (f_step lb (t_G lb (t_W ww (f_like rr xx)) xx))) mm 16) := by rw [hst]; exact mm_k hsCk hmm 16
        have hy2 : FK 143 (g_yy (sC (t_W ww (f_like rr xx)) xx (f_step lb (t_G lb (t_W ww (f_like rr xx)) xx))) mm yy 16) := by rw [hst]; exact gyy_k hsCk hmm hyy 16
        have hyE : ∀ j, j < 16 → g_yy (sC (t_W ww (f_like rr xx)) xx (f_step lb (t_G lb (t_W ww (f_like rr xx)) xx))) mm yy 16 j = a_cp (gw (wC (e_W wa rM xx xf) (e_X xx xf) (m_step lb (e_G lb wa rM xx xf)) mm) wk 16) yc 16 j := by
          intro j hj
          rw [hst, cp_lt hj]
          exact hsp.2 j hj
        have h50 : w_t (e_W wa rM xx xf) (e_X xx xf) (m_step lb (e_G lb wa rM xx xf)) mm wk 16 = l_max (g_ll (t_W ww (f_like rr xx)) xx (f_step lb (t_G lb (t_W ww (f_like rr xx)) xx)) mm ll 16) 16 := by
          rw [hst]
          exact t_eq hll 16 (Nat.le_refl _)
        have h60 : e_W wa rM xx xf 1 = t_W ww (f_like rr xx) 1 := (hagW 1 (by decide) (by decide)).symm
        exact ⟨0, 14, 14, _, _, fun o f => h_encode_R rfl (k_VF_encode_F ⟨h16, ha⟩ hxx hms hz14 hlb hrr hww hmm) o f, k_Mod_encode_F ⟨h16, ha⟩ hxx hxf hq2 hz14 hlb hrM h0g hwa hwk hmm, fun W2 h2 => by
          rcases h2 with ⟨u, rfl⟩
          exact RS_mk rfl rfl rfl rfl h5 rfl h7 ⟨⟨⟨by omega, hz14, by omega⟩, hlb, hb2⟩, ⟨cpy_k hxx, hm2, hmm2, hy2, hyy2, hXk, hgk 16, cp_k (hgk 16) hyc, hyd⟩, ⟨htW, hww2, hWk, hwp, like_k hrr hxx, hrk⟩, ⟨Or.inr hyE, hs2, hag⟩,
            (told_0 _ _ _ _ _).trans hG.symm, (fun j h1 h4 => (told_1 _ _ _ _ _ j h1 h4).trans (hkc j h1 h4).symm), (told_5 _ _ _ _ _).trans h50, (told_6 _ _ _ _ _).trans (by rw [h60])⟩, fun _ => rfl⟩
      · exact ⟨2, 0, 0, _, _, fun o f => h_encode_2 rfl (kx_VF_encode_B hl0 hni hxx (by rw [hms]; exact room_no (k := 14) (by decide) hz hz14 (by decide))) o f 0, k_Mod_encode_D ⟨h16, ha⟩ hxx hxf hq2 (by omega) hz, fun W2 h2 => by rcases h2 with rfl; exact RS_mk rfl rfl rfl rfl rfl rfl rfl ⟨⟨⟨ha, hz, ht⟩, hlb, hb⟩, ⟨hxx, hmm, hmm2, hyy, hyy2, eX_k hxx hxf, hwk, hyc, hyd⟩, ⟨hww, hww2, hwa, hwp, like_k hrr hxx, eR_k hrM hxx hxf⟩, ⟨hs1, hs2, hag⟩, ht0, ht1, ht5, ht6⟩, fun h => absurd h (by decide)⟩
    · have hms : m_size (f_ac xx 0 16) = 1 := if_neg hq
      have hq2 : ¬ 0 ≤ Op.cmpValue (FP.fcmp (f_ac (e_X xx xf) 0 16) FP.fconst1) .g := by rw [hac]; exact hq
      by_cases hz1 : z + 1 ≤ 120
      · exact ⟨0, 1, 1, _, _, fun o f => h_encode_R rfl (k_VF_encode_S ⟨h16, ha⟩ hxx hms hz1) o f, k_Mod_encode_S ⟨h16, ha⟩ hxx hxf hq2 hz1, fun W2 h2 => by rcases h2 with rfl; exact RS_mk rfl rfl rfl rfl (sil_mm mm wk) rfl rfl ⟨⟨⟨by omega, hz1, by omega⟩, hlb, upd_b hb b_z⟩, ⟨cpy_k hxx, fill_k hmm (by decide), hmm2, fill_k hyy (by decide), hyy2, eX_k hxx hxf, fill_k hwk (by decide), cp_k (fill_k hwk (by decide)) hyc, hyd⟩, ⟨hww, hww2, hwa, hwp, like_k hrr hxx, eR_k hrM hxx hxf⟩, ⟨Or.inr sil_yy, hs2, hag⟩, ht0, ht1, ht5, ht6⟩, fun _ => rfl⟩
      · exact ⟨2, 0, 0, _, _, fun o f => h_encode_2 rfl (kx_VF_encode_B hl0 hni hxx (by rw [hms]; exact room_no (k := 1) (by decide) hz hz1 (by decide))) o f 0, k_Mod_encode_B ⟨h16, ha⟩ hxx hxf hq2 (by omega) hz, fun W2 h2 => by rcases h2 with rfl; exact RS_mk rfl rfl rfl rfl rfl rfl rfl ⟨⟨⟨ha, hz, ht⟩, hlb, hb⟩, ⟨hxx, hmm, hmm2, hyy, hyy2, eX_k hxx hxf, hwk, hyc, hyd⟩, ⟨hww, hww2, hwa, hwp, like_k hrr hxx, eR_k hrM hxx hxf⟩, ⟨hs1, hs2, hag⟩, ht0, ht1, ht5, ht6⟩, fun h => absurd h (by decide)⟩
  · have hni : ¬ (16 : Int32) ≤ nI a := lt_up (N := 16) (by decide) (by omega) (by decide)
    exact ⟨1, 0, 0, _, _, fun o f => h_encode_1 rfl (kx_VF_encode_A hl0 hni) o f 0, k_Mod_encode_A hni, fun W2 h2 => by rcases h2 with rfl; exact RS_mk rfl rfl rfl rfl rfl rfl rfl hR0, fun h => absurd h (by decide)⟩
set_option maxRecDepth 100000 in
theorem rs_decode {l : Launch} {D : va_G} {cF cI cJ cD : ClassId} {hx hm : Nat} {th : Int32} {WC WM : va_W} (hl0 : l.stackTraces = false) (h : RS cF cI hx hm th WC WM) : StJ l D cF cI cJ cD hx hm yLaw_decode (.codeWith yLaw_decode cLaw_decode 3 (some .int) [(0, 8, 11, 26), (0, 8, 14, 15)]) yMod_decode (.code yMod_decode cMod_decode 5 (some .int)) [] WC WM := by
  obtain ⟨ad, bd, a, z, t, lb, np, nd, ns, nu, sp, sp2, pl, pg, pl2, pg2, xx, mm, mm2, yy, yy2, rr, ww, ww2, xf, wk, yc, yd, wa, wo, wp, rM, f, kc, ll, kc2, ll2, lM, kM, td, rfl, rfl, rfl, rfl, hR⟩ := h
  have hR0 := hR
  obtain ⟨⟨⟨ha, hz, ht⟩, hlb, hb⟩, ⟨hxx, hmm, hmm2, hyy, hyy2, hxf, hwk, hyc, hyd⟩, ⟨hww, hww2, hwa, hwp, hrr, hrM⟩, ⟨hs1, hs2, hag⟩, ht0, ht1, ht5, ht6⟩ := hR
  have hz120 : nI z ≤ 120 := le_to (N := 120) (by decide) hz (by decide)
  by_cases hzt : t = z
  · subst hzt
    have e0 : nI t - nI t = 0 := by rw [pk_sub (Nat.le_refl t), Nat.sub_self]; decide
    exact ⟨1, 0, 0, _, _, fun o f => h_decode_1 rfl (kx_VF_decode_A hl0 e0) o f 0, k_Mod_decode_A rfl, fun W2 h2 => by rcases h2 with rfl; exact RS_mk rfl rfl rfl rfl rfl rfl rfl hR0, fun h => absurd h (by decide)⟩
  · have hlt : t < z := by omega
    have es : nI z - nI t = nI (z - t) := pk_sub ht
    have hne : ¬ nI z - nI t = 0 := by rw [es]; exact nI_ne0 (by omega) (by omega)
    have hne2 : ¬ nI t = nI z := fun q => hzt ((nI_eq (by omega) (by omega)).mp q)
    have hn0 : r_next f (nI z) (nI t) 0 = f t := nxt_in (k := 0) (by decide) (by omega) hz
    have hmk : r_mark (f t) = m_wd (f t) := mark_eq (hb t)
    by_cases hw : m_wd (f t) = 0
    · have hr1 : r_size f (nI z) (nI t) = 1 := by unfold r_size; rw [hn0, hmk, if_pos hw]
      have hcut : r_size f (nI z) (nI t) ≤ nI z - nI t := by rw [hr1, es]; exact le_of (N := 1) (by decide) (by omega) (by omega)
      have hsz : nI t + r_size f (nI z) (nI t) = nI (t + 1) := by rw [hr1]; exact nI_1 t
      by_cases h0 : f t = 0
      · exact ⟨0, 0, 0, _, _, fun o f => h_decode_R rfl (k_VF_decode_S hz120 hne hcut (hn0.trans h0)) o f, k_Mod_decode_S (by omega) hne2 hw h0, fun W2 h2 => by rcases h2 with rfl; exact RS_mk rfl hsz rfl rfl rfl (sil_mm mm2 wk) rfl ⟨⟨⟨ha, hz, by omega⟩, hlb, hb⟩, ⟨hxx, hmm, fill_k hmm2 (by decide), hyy, fill_k hyy2 (by decide), hxf, fill_k hwk (by decide), hyc, cp_k (fill_k hwk (by decide)) hyd⟩, ⟨hww, hww2, hwa, hwp, hrr, hrM⟩, ⟨hs1, Or.inr sil_yy, hag⟩, ht0, ht1, ht5, ht6⟩, fun _ => rfl⟩
      · have h0n : ¬ r_next f (nI z) (nI t) 0 = 0 := by rw [hn0]; exact h0
        have hsd0 : r_sound f (nI z) (nI t) = 0 := by unfold r_sound; rw [hn0, hmk, if_pos hw]
        have hak := ak_k hwa hwp
        have hgk := gw_k (wM_k hak hmm2) hwk
        have hsp := speak_eq (yy := yy2) (sM_c (w := ww2)) (M_he (ag_t hag (ag_s (ak_ag wa wp))) hak hmm2) (wM_k hak hmm2) hwk 16 (Nat.le_refl _)
        exact ⟨0, 2, 2, _, _, fun o f => h_decode_R rfl (k_VF_decode_M hz120 hne hcut h0n hsd0 hww2 hmm2) o f, k_Mod_decode_M (by omega) hne2 hw h0 hwa hwp hwk hmm2, fun W2 h2 => by rcases h2 with rfl; exact RS_mk rfl hsz rfl rfl rfl (mem_eq hsp.1) rfl ⟨⟨⟨ha, hz, by omega⟩, hlb, hb⟩, ⟨hxx, hmm, mm_k (sM_k hww2) hmm2 16, hyy, gyy_k (sM_k hww2) hmm2 hyy2 16, hxf, hgk 16, hyc, cp_k (hgk 16) hyd⟩, ⟨hww, hww2, hak, hwp, hrr, hrM⟩, ⟨hs1, Or.inr (fun j hj => by rw [cp_lt hj]; exact hsp.2 j hj), hag⟩, ht0, ht1, ht5, ht6⟩, fun _ => rfl⟩
    · have hr1 : r_size f (nI z) (nI t) = 14 := by unfold r_size; rw [hn0, hmk, if_neg hw]
      have hmk2 : ¬ r_mark (f t) = 0 := by rw [hmk]; exact hw
      obtain ⟨gg, hg, hb15, hgs, hli, h0, hhi⟩ := wide_eq (hb t) hmk2
      have hsz : nI t + r_size f (nI z) (nI t) = nI (t + 14) := by rw [hr1]; exact add_lit (k := 14) (by decide)
      have h0n : ¬ r_next f (nI z) (nI t) 0 = 0 := by rw [hn0]; exact h0
      by_cases hc : t + 14 ≤ z
      · have hcut : r_size f (nI z) (nI t) ≤ nI z - nI t := by rw [hr1, es]; exact le_of (N := 14) (by decide) (by omega) (by omega)
        have hcut2 : nI (t + 14) ≤ nI z := nI_le hc (by omega)
        have hse : r_sound f (nI z) (nI t) = m_sound f t := sound_eq hc hz hmk2
        by_cases hsd : m_sound f t = 0
        · have hsd0 : r_sound f (nI z) (nI t) = 0 := hse.trans hsd
          have hak := ak_k hwa hwp
          have hgk := gw_k (wM_k hak hmm2) hwk
          have hsp := speak_eq (yy := yy2) (sM_c (w := ww2)) (M_he (ag_t hag (ag_s (ak_ag wa wp))) hak hmm2) (wM_k hak hmm2) hwk 16 (Nat.le_refl _)
          exact ⟨0, 2, 2, _, _, fun o f => h_decode_R rfl (k_VF_decode_M hz120 hne hcut h0n hsd0 hww2 hmm2) o f, k_Mod_decode_N (by omega) hne2 hw hcut2 hsd h0 hwa hwp hwk hmm2, fun W2 h2 => by rcases h2 with rfl; exact RS_mk rfl hsz rfl rfl rfl (mem_eq hsp.1) rfl ⟨⟨⟨ha, hz, by omega⟩, hlb, hb⟩, ⟨hxx, hmm, mm_k (sM_k hww2) hmm2 16, hyy, gyy_k (sM_k hww2) hmm2 hyy2 16, hxf, hgk 16, hyc, cp_k (hgk 16) hyd⟩, ⟨hww, hww2, hak, hwp, hrr, hrM⟩, ⟨hs1, Or.inr (fun j hj => by rw [cp_lt hj]; exact hsp.2 j hj), hag⟩, ht0, ht1, ht5, ht6⟩, fun _ => rfl⟩
        · have hsd1 : ¬ r_sound f (nI z) (nI t) = 0 := by rw [hse]; exact hsd
          have hb0 : ∀ j, 0 ≤ f j := fun j => (hb j).1
          obtain ⟨c1, c2, c3, c4⟩ := sound_c hsd1 hb0
          rw [nxt_in (k := 1) (by decide) (by omega) hz] at c1
          rw [nxt_in (k := 2) (by decide) (by omega) hz] at c2
          rw [nxt_in (k := 3) (by decide) (by omega) hz] at c3
          rw [nxt_in (k := 4) (by decide) (by omega) hz] at c4
          have hdG : d_G f (nI z) (nI t) = nI gg := by unfold d_G; rw [hn0]; exact hgs
          have hdL : d_L f (nI z) (nI t) = m_hi (f t) := by unfold d_L; rw [hn0]; exact hli
          have hst : f_step (d_L f (nI z) (nI t)) (d_G f (nI z) (nI t)) = m_step (m_hi (f t)) gg := by rw [hdG, hdL]; exact (step_eq hg).symm
          have hsk : fk 160 (m_step (m_hi (f t)) gg) := ms_k (by omega)
          have hWk := rW_k hwa c1 c2 c3 c4
          have hdW := d_W_k hww2 hsd1 hb0
          have hagW : ag 4 (d_W ww2 f (nI z) (nI t)) (m_rW wa f t) := dW_ag hc hz
          have hgk := gw_k (wD_k (lev := m_rl f t) hWk hsk hmm2) hwk
          have hsp := speak_eq (yy := yy2) (sD_c (w := d_W ww2 f (nI z) (nI t)) (st := m_step (m_hi (f t)) gg) (ll := d_ll ll2 f (nI z) (nI t))) (D_he hagW (dll_eq hc hz) hWk hsk hmm2) (wD_k hWk hsk hmm2) hwk 16 (Nat.le_refl _)
          have hsDk := sD_k (ww := d_W ww2 f (nI z) (nI t)) (ll := d_ll ll2 f (nI z) (nI t)) hdW hsk
          have h6 : m_mem mm2 (gw (wD (m_rW wa f t) (m_step (m_hi (f t)) gg) mm2 (m_rl f t)) wk 16) = g_mm (sD (d_W ww2 f (nI z) (nI t)) (f_step (d_L f (nI z) (nI t)) (d_G f (nI z) (nI t))) (d_ll ll2 f (nI z) (nI t))) mm2 16 := by rw [hst]; exact mem_eq hsp.1
          have hm2 : FK 143 (g_mm (sD (d_W ww2 f (nI z) (nI t)) (f_step (d_L f (nI z) (nI t)) (d_G f (nI z) (nI t))) (d_ll ll2 f (nI z) (nI t))) mm2 16) := by rw [hst]; exact mm_k hsDk hmm2 16
          have hy2 : FK 143 (g_yy (sD (d_W ww2 f (nI z) (nI t)) (f_step (d_L f (nI z) (nI t)) (d_G f (nI z) (nI t))) (d_ll ll2 f (nI z) (nI t))) mm2 yy2 16) := by rw [hst]; exact gyy_k hsDk hmm2 hyy2 16
          have hyE : ∀ j, j < 16 → g_yy (sD (d_W ww2 f (nI z) (nI t)) (f_step (d_L f (nI z) (nI t)) (d_G f (nI z) (nI t))) (d_ll ll2 f (nI z) (nI t))) mm2 yy2 16 j = a_cp (gw (wD (m_rW wa f t) (m_step (m_hi (f t)) gg) mm2 (m_rl f t)) wk 16) yd 16 j := by
            intro j hj
            rw [hst, cp_lt hj]
            exact hsp.2 j hj
          have hag2 : ag 4 (d_W ww2 f (nI z) (nI t)) (m_ak wp (m_rW wa f t)) := ag_t hagW (ag_s (ak_ag wp (m_rW wa f t)))
          exact ⟨0, 1, 1, _, _, fun o f => h_decode_R rfl (k_VF_decode_C hz120 hne hcut h0n hsd1 hb0 hww2 hmm2) o f, k_Mod_decode_C (by omega) hne2 hw hcut2 hsd h0 hg hb15 c1 c2 c3 c4 hwa hwk hmm2, fun W2 h2 => by
            rcases h2 with ⟨u, rfl⟩
            exact RS_mk rfl hsz rfl rfl rfl h6 rfl ⟨⟨⟨ha, hz, hc⟩, hlb, hb⟩, ⟨hxx, hmm, hm2, hyy, hy2, hxf, hgk 16, hyc, cp_k (hgk 16) hyd⟩, ⟨hww, hdW, hWk, ak_k hwp hWk, hrr, hrM⟩, ⟨hs1, Or.inr hyE, hag2⟩, ht0, ht1, ht5, ht6⟩, fun _ => rfl⟩
      · have hcut : ¬ r_size f (nI z) (nI t) ≤ nI z - nI t := by rw [hr1, es]; exact lt_up (N := 14) (by decide) (by omega) (by decide)
        have hcut2 : ¬ nI (t + 14) ≤ nI z := nI_ge (by omega) (by omega)
        exact ⟨2, 0, 0, _, _, fun o f => h_decode_2 rfl (kx_VF_decode_B hl0 hz120 hne hcut) o f 0, k_Mod_decode_B (by omega) hne2 hw hcut2, fun W2 h2 => by rcases h2 with rfl; exact RS_mk rfl rfl rfl rfl rfl rfl rfl hR0, fun h => absurd h (by decide)⟩
set_option maxRecDepth 100000 in
theorem rs_out {l : Launch} {D : va_G} {cF cI cJ cD : ClassId} {hx hm : Nat} {th : Int32} {WC WM : va_W} (hl0 : l.stackTraces = false) (h : RS cF cI hx hm th WC WM) (b n : Int32) : StD l D cF cI cJ cD hx hm yLaw_out (.codeWith yLaw_out cLaw_out 5 (some .int) [(0, 9, 12, 21)]) yMod_out (.code yMod_out cMod_out 3 (some .double)) [.int b, .int n] WC WM := by
  obtain ⟨ad, bd, a, z, t, lb, np, nd, ns, nu, sp, sp2, pl, pg, pl2, pg2, xx, mm, mm2, yy, yy2, rr, ww, ww2, xf, wk, yc, yd, wa, wo, wp, rM, f, kc, ll, kc2, ll2, lM, kM, td, rfl, rfl, rfl, rfl, hR⟩ := h
  have hR0 := hR
  obtain ⟨⟨⟨ha, hz, ht⟩, hlb, hb⟩, ⟨hxx, hmm, hmm2, hyy, hyy2, hxf, hwk, hyc, hyd⟩, ⟨hww, hww2, hwa, hwp, hrr, hrM⟩, ⟨hs1, hs2, hag⟩, ht0, ht1, ht5, ht6⟩ := hR
  by_cases hn : n.toInt < 0 ∨ 16 ≤ n.toInt
  · have hn1 : n < 0 ∨ 16 ≤ n := hn.imp (fun q => Int32.lt_iff_toInt_lt.mpr (by rw [i0]; exact q)) (fun q => Int32.le_iff_toInt_le.mpr (by rw [show (16 : Int32).toInt = 16 from (by decide)]; exact q))
    have hn2 : m_in n 0 15 = 0 := in_out (hn.imp (fun q => by rw [i0]; exact q) (fun q => by rw [show (15 : Int32).toInt = 15 from (by decide)]; omega))
    by_cases hb0 : b = 0
    · exact ⟨1, FP.dconst0, FP.dconst0, _, _, fun o f => h_out_1 _ _ rfl (kx_VF_out_C hl0 hb0 (hn1.elim Or.inl (fun q => Or.inr (Or.inl q)))) o f FP.dconst0, k_Mod_out_X hn2, fun W2 h2 => by rcases h2 with rfl; exact RS_mk rfl rfl rfl rfl rfl rfl rfl hR0, fun h => absurd h (by decide)⟩
    · exact ⟨1, FP.dconst0, FP.dconst0, _, _, fun o f => h_out_1 _ _ rfl (kx_VF_out_D hl0 hb0 (hn1.elim Or.inl (fun q => Or.inr (Or.inl q)))) o f FP.dconst0, k_Mod_out_X hn2, fun W2 h2 => by rcases h2 with rfl; exact RS_mk rfl rfl rfl rfl rfl rfl rfl hR0, fun h => absurd h (by decide)⟩
  · obtain ⟨i, hi, rfl⟩ : ∃ i : Nat, i < 16 ∧ n = nI i := by
      obtain ⟨i, -, e⟩ := nI_of (x := n) (fun q => by rw [Int32.lt_iff_toInt_lt, i0] at q; omega)
      refine ⟨n.toInt.toNat, by omega, Int32.toInt_inj.mp ?_⟩
      rw [nI_toInt (by omega)]
      omega
    have hn9 : ¬ m_in (nI i) 0 15 = 0 := in_in (by rw [nI_toInt (by omega), i0]; omega) (by rw [nI_toInt (by omega), show (15 : Int32).toInt = 15 from (by decide)]; omega)
    by_cases hb0 : b = 0
    · by_cases hsp : sp = 0
      · exact ⟨1, FP.dconst0, FP.dconst0, _, _, fun o f => h_out_1 _ _ rfl (kx_VF_out_C hl0 hb0 (Or.inr (Or.inr hsp))) o f FP.dconst0, k_Mod_out_Z hn9 hb0 hsp, fun W2 h2 => by rcases h2 with rfl; exact RS_mk rfl rfl rfl rfl rfl rfl rfl hR0, fun h => absurd h (by decide)⟩
      · have e9 : yy i = yc i := (hs1.resolve_left hsp) i hi
        exact ⟨0, (FP.f2d (yy i)), (FP.f2d (yc i)), _, _, fun o f => h_out_R _ _ rfl (k_VF_out_C hb0 hi hsp hyy) o f, k_Mod_out_C hi hn9 hb0 hsp hyc, fun W2 h2 => by rcases h2 with rfl; exact RS_mk rfl rfl rfl rfl rfl rfl rfl hR0, fun _ => by rw [e9]⟩
    · by_cases hsp : sp2 = 0
      · exact ⟨1, FP.dconst0, FP.dconst0, _, _, fun o f => h_out_1 _ _ rfl (kx_VF_out_D hl0 hb0 (Or.inr (Or.inr hsp))) o f FP.dconst0, k_Mod_out_Y hn9 hb0 hsp, fun W2 h2 => by rcases h2 with rfl; exact RS_mk rfl rfl rfl rfl rfl rfl rfl hR0, fun h => absurd h (by decide)⟩
      · have e9 : yy2 i = yd i := (hs2.resolve_left hsp) i hi
        exact ⟨0, (FP.f2d (yy2 i)), (FP.f2d (yd i)), _, _, fun o f => h_out_R _ _ rfl (k_VF_out_D hb0 hi hsp hyy2) o f, k_Mod_out_D hi hn9 hb0 hsp hyd, fun W2 h2 => by rcases h2 with rfl; exact RS_mk rfl rfl rfl rfl rfl rfl rfl hR0, fun _ => by rw [e9]⟩
set_option maxRecDepth 100000 in
theorem rs_code {l : Launch} {D : va_G} {cF cI cJ cD : ClassId} {hx hm : Nat} {th : Int32} {WC WM : va_W} (hl0 : l.stackTraces = false) (h : RS cF cI hx hm th WC WM) (k : Int32) : StJ l D cF cI cJ cD hx hm yLaw_code (.codeWith yLaw_code cLaw_code 4 (some .int) [(0, 9, 12, 13)]) yMod_code (.code yMod_code cMod_code 2 (some .int)) [.int k] WC WM := by
  obtain ⟨ad, bd, a, z, t, lb, np, nd, ns, nu, sp, sp2, pl, pg, pl2, pg2, xx, mm, mm2, yy, yy2, rr, ww, ww2, xf, wk, yc, yd, wa, wo, wp, rM, f, kc, ll, kc2, ll2, lM, kM, td, rfl, rfl, rfl, rfl, hR⟩ := h
  have hR0 := hR
  obtain ⟨⟨⟨ha, hz, ht⟩, hlb, hb⟩, ⟨hxx, hmm, hmm2, hyy, hyy2, hxf, hwk, hyc, hyd⟩, ⟨hww, hww2, hwa, hwp, hrr, hrM⟩, ⟨hs1, hs2, hag⟩, ht0, ht1, ht5, ht6⟩ := hR
  rcases k7 k with hk | rfl | rfl | rfl | rfl | rfl | rfl | rfl
  · exact ⟨1, 0, 0, _, _, fun o f => h_code_1 _ rfl (kx_VF_code_A hl0 hk) o f 0, k_Mod_code_X (out7 hk), fun W2 h2 => by rcases h2 with rfl; exact RS_mk rfl rfl rfl rfl rfl rfl rfl hR0, fun h => absurd h (by decide)⟩
  · exact ⟨0, pg, (td 0), _, _, fun o f => h_code_R _ rfl k_VF_code_0 o f, k_Mod_code_0, fun W2 h2 => by rcases h2 with rfl; exact RS_mk rfl rfl rfl rfl rfl rfl rfl hR0, fun _ => ht0.symm⟩
  · exact ⟨0, (kc 1), (td 1), _, _, fun o f => h_code_R _ rfl k_VF_code_1 o f, k_Mod_code_1, fun W2 h2 => by rcases h2 with rfl; exact RS_mk rfl rfl rfl rfl rfl rfl rfl hR0, fun _ => (ht1 1 (by decide) (by decide)).symm⟩
  · exact ⟨0, (kc 2), (td 2), _, _, fun o f => h_code_R _ rfl k_VF_code_2 o f, k_Mod_code_2, fun W2 h2 => by rcases h2 with rfl; exact RS_mk rfl rfl rfl rfl rfl rfl rfl hR0, fun _ => (ht1 2 (by decide) (by decide)).symm⟩
  · exact ⟨0, (kc 3), (td 3), _, _, fun o f => h_code_R _ rfl k_VF_code_3 o f, k_Mod_code_3, fun W2 h2 => by rcases h2 with rfl; exact RS_mk rfl rfl rfl rfl rfl rfl rfl hR0, fun _ => (ht1 3 (by decide) (by decide)).symm⟩
  · exact ⟨0, (kc 4), (td 4), _, _, fun o f => h_code_R _ rfl k_VF_code_4 o f, k_Mod_code_4, fun W2 h2 => by rcases h2 with rfl; exact RS_mk rfl rfl rfl rfl rfl rfl rfl hR0, fun _ => (ht1 4 (by decide) (by decide)).symm⟩
  · exact ⟨0, (l_max ll 16), (td 5), _, _, fun o f => h_code_R _ rfl k_VF_code_5 o f, k_Mod_code_5, fun W2 h2 => by rcases h2 with rfl; exact RS_mk rfl rfl rfl rfl rfl rfl rfl hR0, fun _ => ht5.symm⟩
  · exact ⟨0, (FP.f2i (FP.fmul (ww 1) 1199570944)), (td 6), _, _, fun o f => h_code_R _ rfl (k_VF_code_6 hww) o f, k_Mod_code_6, fun W2 h2 => by rcases h2 with rfl; exact RS_mk rfl rfl rfl rfl rfl rfl rfl hR0, fun _ => ht6.symm⟩
set_option maxRecDepth 100000 in
theorem rs_count {l : Launch} {D : va_G} {cF cI cJ cD : ClassId} {hx hm : Nat} {th : Int32} {WC WM : va_W} (hl0 : l.stackTraces = false) (h : RS cF cI hx hm th WC WM) (k : Int32) : StJ l D cF cI cJ cD hx hm yLaw_count (.codeWith yLaw_count cLaw_count 4 (some .int) [(0, 9, 12, 13)]) yMod_count (.code yMod_count cMod_count 2 (some .int)) [.int k] WC WM := by
  obtain ⟨ad, bd, a, z, t, lb, np, nd, ns, nu, sp, sp2, pl, pg, pl2, pg2, xx, mm, mm2, yy, yy2, rr, ww, ww2, xf, wk, yc, yd, wa, wo, wp, rM, f, kc, ll, kc2, ll2, lM, kM, td, rfl, rfl, rfl, rfl, hR⟩ := h
  have hR0 := hR
  obtain ⟨⟨⟨ha, hz, ht⟩, hlb, hb⟩, ⟨hxx, hmm, hmm2, hyy, hyy2, hxf, hwk, hyc, hyd⟩, ⟨hww, hww2, hwa, hwp, hrr, hrM⟩, ⟨hs1, hs2, hag⟩, ht0, ht1, ht5, ht6⟩ := hR
  rcases k7 k with hk | rfl | rfl | rfl | rfl | rfl | rfl | rfl
  · exact ⟨1, 0, 0, _, _, fun o f => h_count_1 _ rfl (kx_VF_count_A hl0 hk) o f 0, k_Mod_count_X (out7 hk), fun W2 h2 => by rcases h2 with rfl; exact RS_mk rfl rfl rfl rfl rfl rfl rfl hR0, fun h => absurd h (by decide)⟩
  · exact ⟨0, (nI a), (nI a), _, _, fun o f => h_count_R _ rfl k_VF_count_0 o f, k_Mod_count_0, fun W2 h2 => by rcases h2 with rfl; exact RS_mk rfl rfl rfl rfl rfl rfl rfl hR0, fun _ => rfl⟩
  · exact ⟨0, (nI t), (nI t), _, _, fun o f => h_count_R _ rfl k_VF_count_1 o f, k_Mod_count_1, fun W2 h2 => by rcases h2 with rfl; exact RS_mk rfl rfl rfl rfl rfl rfl rfl hR0, fun _ => rfl⟩
  · exact ⟨0, np, np, _, _, fun o f => h_count_R _ rfl k_VF_count_2 o f, k_Mod_count_2, fun W2 h2 => by rcases h2 with rfl; exact RS_mk rfl rfl rfl rfl rfl rfl rfl hR0, fun _ => rfl⟩
  · exact ⟨0, nd, nd, _, _, fun o f => h_count_R _ rfl k_VF_count_3 o f, k_Mod_count_3, fun W2 h2 => by rcases h2 with rfl; exact RS_mk rfl rfl rfl rfl rfl rfl rfl hR0, fun _ => rfl⟩
  · exact ⟨0, ns, ns, _, _, fun o f => h_count_R _ rfl k_VF_count_4 o f, k_Mod_count_4, fun W2 h2 => by rcases h2 with rfl; exact RS_mk rfl rfl rfl rfl rfl rfl rfl hR0, fun _ => rfl⟩
  · exact ⟨0, nu, nu, _, _, fun o f => h_count_R _ rfl k_VF_count_5 o f, k_Mod_count_5, fun W2 h2 => by rcases h2 with rfl; exact RS_mk rfl rfl rfl rfl rfl rfl rfl hR0, fun _ => rfl⟩
  · exact ⟨0, lb, lb, _, _, fun o f => h_count_R _ rfl (k_VF_count_6 hlb) o f, k_Mod_count_6 hlb, fun W2 h2 => by rcases h2 with rfl; exact RS_mk rfl rfl rfl rfl rfl rfl rfl hR0, fun _ => rfl⟩
set_option maxRecDepth 100000 in
theorem rs_stream {l : Launch} {D : va_G} {cF cI cJ cD : ClassId} {hx hm : Nat} {th : Int32} {WC WM : va_W} (hl0 : l.stackTraces = false) (h : RS cF cI hx hm th WC WM) (k : Int32) : StJ l D cF cI cJ cD hx hm yLaw_stream (.codeWith yLaw_stream cLaw_stream 4 (some .int) [(0, 9, 12, 21)]) yMod_stream (.code yMod_stream cMod_stream 2 (some .int)) [.int k] WC WM := by
  obtain ⟨ad, bd, a, z, t, lb, np, nd, ns, nu, sp, sp2, pl, pg, pl2, pg2, xx, mm, mm2, yy, yy2, rr, ww, ww2, xf, wk, yc, yd, wa, wo, wp, rM, f, kc, ll, kc2, ll2, lM, kM, td, rfl, rfl, rfl, rfl, hR⟩ := h
  have hR0 := hR
  obtain ⟨⟨⟨ha, hz, ht⟩, hlb, hb⟩, ⟨hxx, hmm, hmm2, hyy, hyy2, hxf, hwk, hyc, hyd⟩, ⟨hww, hww2, hwa, hwp, hrr, hrM⟩, ⟨hs1, hs2, hag⟩, ht0, ht1, ht5, ht6⟩ := hR
  have e1 : (nI z - 1).toInt = (z : Int) - 1 := pk_sub_toInt (b := 1) (by omega) (by decide)
  have e2 : (-1 : Int32).toInt = -1 := by decide
  have hz120 : nI z ≤ 120 := le_to (N := 120) (by decide) hz (by decide)
  by_cases hk1 : k = -1
  · subst hk1
    exact ⟨0, (nI z), (nI z), _, _, fun o f => h_stream_R _ rfl k_VF_stream_L o f, k_Mod_stream_L (in_in (Int.le_refl _) (by rw [e1, e2]; omega)), fun W2 h2 => by rcases h2 with rfl; exact RS_mk rfl rfl rfl rfl rfl rfl rfl hR0, fun _ => rfl⟩
  · by_cases hh : r_has (nI z) k = 0
    · have hx9 : m_in k (-1) (nI z - 1) = 0 := in_out (by
        have h9 := has_0 hh
        rw [nI_toInt (by omega)] at h9
        rw [e1, e2]
        have h8 : k.toInt ≠ -1 := fun q => hk1 (Int32.toInt_inj.mp (q.trans e2.symm))
        omega)
      exact ⟨1, 0, 0, _, _, fun o f => h_stream_1 _ rfl (kx_VF_stream_A hl0 hk1 hh) o f 0, k_Mod_stream_X hx9, fun W2 h2 => by rcases h2 with rfl; exact RS_mk rfl rfl rfl rfl rfl rfl rfl hR0, fun h => absurd h (by decide)⟩
    · have h9 := has_1 hh
      rw [nI_toInt (by omega)] at h9
      have hx9 : ¬ m_in k (-1) (nI z - 1) = 0 := in_in (by rw [e2]; omega) (by rw [e1]; omega)
      exact ⟨0, (f k.toNatClampNeg), (f k.toNatClampNeg), _, _, fun o f => h_stream_R _ rfl (k_VF_stream_B hz120 hk1 hh) o f, k_Mod_stream_B hx9 (Int32.le_iff_toInt_le.mpr (by rw [i0]; exact h9.1)) (r_has_in hh hz120), fun W2 h2 => by rcases h2 with rfl; exact RS_mk rfl rfl rfl rfl rfl rfl rfl hR0, fun _ => rfl⟩
set_option maxRecDepth 100000 in
theorem rs_damage {l : Launch} {D : va_G} {cF cI cJ cD : ClassId} {hx hm : Nat} {th : Int32} {WC WM : va_W} (hl0 : l.stackTraces = false) (h : RS cF cI hx hm th WC WM) (k b : Int32) : StJ l D cF cI cJ cD hx hm yLaw_damage (.codeWith yLaw_damage cLaw_damage 5 (some .int) [(0, 10, 13, 13), (0, 10, 17, 21)]) yMod_damage (.code yMod_damage cMod_damage 4 (some .int)) [.int k, .int b] WC WM := by
  obtain ⟨ad, bd, a, z, t, lb, np, nd, ns, nu, sp, sp2, pl, pg, pl2, pg2, xx, mm, mm2, yy, yy2, rr, ww, ww2, xf, wk, yc, yd, wa, wo, wp, rM, f, kc, ll, kc2, ll2, lM, kM, td, rfl, rfl, rfl, rfl, hR⟩ := h
  have hR0 := hR
  obtain ⟨⟨⟨ha, hz, ht⟩, hlb, hb⟩, ⟨hxx, hmm, hmm2, hyy, hyy2, hxf, hwk, hyc, hyd⟩, ⟨hww, hww2, hwa, hwp, hrr, hrM⟩, ⟨hs1, hs2, hag⟩, ht0, ht1, ht5, ht6⟩ := hR
  have e1 : (nI z - 1).toInt = (z : Int) - 1 := pk_sub_toInt (b := 1) (by omega) (by decide)
  have e2 : (255 : Int32).toInt = 255 := by decide
  have hz120 : nI z ≤ 120 := le_to (N := 120) (by decide) hz (by decide)
  by_cases hb1 : b < 0
  · exact ⟨1, 0, 0, _, _, fun o f => h_damage_1 _ _ rfl (kx_VF_damage_A hl0 (Or.inl hb1)) o f 0, k_Mod_damage_A (in_out (Or.inl (Int32.lt_iff_toInt_lt.mp hb1))), fun W2 h2 => by rcases h2 with rfl; exact RS_mk rfl rfl rfl rfl rfl rfl rfl hR0, fun h => absurd h (by decide)⟩
  · by_cases hb2 : b ≤ 255
    · have hin : ¬ m_in b 0 255 = 0 := in_in (by rw [Int32.lt_iff_toInt_lt, i0] at hb1; rw [i0]; omega) (Int32.le_iff_toInt_le.mp hb2)
      have hok : bOK b := ⟨Int32.le_iff_toInt_le.mpr (by rw [Int32.lt_iff_toInt_lt, i0] at hb1; rw [i0]; omega), hb2⟩
      by_cases hh : r_has (nI z) k = 0
      · have hx9 : m_in k 0 (nI z - 1) = 0 := in_out (by
          have h9 := has_0 hh
          rw [nI_toInt (by omega)] at h9
          rw [e1, i0]
          omega)
        exact ⟨2, 0, 0, _, _, fun o f => h_damage_2 _ _ rfl (kx_VF_damage_B hl0 hb1 hb2 hh) o f 0, k_Mod_damage_B hin hx9, fun W2 h2 => by rcases h2 with rfl; exact RS_mk rfl rfl rfl rfl rfl rfl rfl hR0, fun h => absurd h (by decide)⟩
      · have h9 := has_1 hh
        rw [nI_toInt (by omega)] at h9
        have hx9 : ¬ m_in k 0 (nI z - 1) = 0 := in_in (by rw [i0]; omega) (by rw [e1]; omega)
        exact ⟨0, (f k.toNatClampNeg), (f k.toNatClampNeg), _, _, fun o f => h_damage_R _ _ rfl (k_VF_damage_R hz120 hb1 hb2 hh) o f, k_Mod_damage_R hin hx9 (r_has_in hh hz120), fun W2 h2 => by rcases h2 with rfl; exact RS_mk rfl rfl rfl rfl rfl rfl rfl ⟨⟨⟨ha, hz, ht⟩, hlb, upd_b hb hok⟩, ⟨hxx, hmm, hmm2, hyy, hyy2, hxf, hwk, hyc, hyd⟩, ⟨hww, hww2, hwa, hwp, hrr, hrM⟩, ⟨hs1, hs2, hag⟩, ht0, ht1, ht5, ht6⟩, fun _ => rfl⟩
    · exact ⟨1, 0, 0, _, _, fun o f => h_damage_1 _ _ rfl (kx_VF_damage_A hl0 (Or.inr hb2)) o f 0, k_Mod_damage_A (in_out (Or.inr (by rw [Int32.le_iff_toInt_le] at hb2; omega))), fun W2 h2 => by rcases h2 with rfl; exact RS_mk rfl rfl rfl rfl rfl rfl rfl hR0, fun h => absurd h (by decide)⟩
set_option maxRecDepth 100000 in
theorem rs_cut {l : Launch} {D : va_G} {cF cI cJ cD : ClassId} {hx hm : Nat} {th : Int32} {WC WM : va_W} (hl0 : l.stackTraces = false) (h : RS cF cI hx hm th WC WM) (k : Int32) : StJ l D cF cI cJ cD hx hm yLaw_cut (.codeWith yLaw_cut cLaw_cut 4 (some .int) [(0, 9, 12, 13)]) yMod_cut (.code yMod_cut cMod_cut 2 (some .int)) [.int k] WC WM := by
  obtain ⟨ad, bd, a, z, t, lb, np, nd, ns, nu, sp, sp2, pl, pg, pl2, pg2, xx, mm, mm2, yy, yy2, rr, ww, ww2, xf, wk, yc, yd, wa, wo, wp, rM, f, kc, ll, kc2, ll2, lM, kM, td, rfl, rfl, rfl, rfl, hR⟩ := h
  have hR0 := hR
  obtain ⟨⟨⟨ha, hz, ht⟩, hlb, hb⟩, ⟨hxx, hmm, hmm2, hyy, hyy2, hxf, hwk, hyc, hyd⟩, ⟨hww, hww2, hwa, hwp, hrr, hrM⟩, ⟨hs1, hs2, hag⟩, ht0, ht1, ht5, ht6⟩ := hR
  have e1 : nI z - nI t = nI (z - t) := pk_sub ht
  have e2 : (nI z - nI t).toInt = ((z - t : Nat) : Int) := by rw [e1]; exact nI_toInt (by omega)
  by_cases hk1 : k < 0
  · exact ⟨1, 0, 0, _, _, fun o f => h_cut_1 _ rfl (kx_VF_cut_A hl0 (Or.inl hk1)) o f 0, k_Mod_cut_X (in_out (Or.inl (Int32.lt_iff_toInt_lt.mp hk1))), fun W2 h2 => by rcases h2 with rfl; exact RS_mk rfl rfl rfl rfl rfl rfl rfl hR0, fun h => absurd h (by decide)⟩
  · obtain ⟨j, hj, rfl⟩ := nI_of hk1
    by_cases hk2 : nI j ≤ nI z - nI t
    · have hj2 : j ≤ z - t := by rw [e1, nI_leI hj (by omega)] at hk2; exact hk2
      have e3 : nI z - nI j = nI (z - j) := pk_sub (by omega)
      exact ⟨0, (nI z - nI j), (nI z - nI j), _, _, fun o f => h_cut_R _ rfl (k_VF_cut_R hk1 hk2) o f, k_Mod_cut_R (in_in (by rw [nI_toInt hj, i0]; omega) (Int32.le_iff_toInt_le.mp hk2)), fun W2 h2 => by rcases h2 with rfl; exact RS_mk e3 rfl e3 rfl rfl rfl rfl ⟨⟨⟨ha, by omega, by omega⟩, hlb, hb⟩, ⟨hxx, hmm, hmm2, hyy, hyy2, hxf, hwk, hyc, hyd⟩, ⟨hww, hww2, hwa, hwp, hrr, hrM⟩, ⟨hs1, hs2, hag⟩, ht0, ht1, ht5, ht6⟩, fun _ => rfl⟩
    · exact ⟨1, 0, 0, _, _, fun o f => h_cut_1 _ rfl (kx_VF_cut_A hl0 (Or.inr hk2)) o f 0, k_Mod_cut_X (in_out (Or.inr (by rw [Int32.le_iff_toInt_le] at hk2; omega))), fun W2 h2 => by rcases h2 with rfl; exact RS_mk rfl rfl rfl rfl rfl rfl rfl hR0, fun h => absurd h (by decide)⟩
set_option maxRecDepth 100000 in
theorem rs_apart {l : Launch} {D : va_G} {cF cI cJ cD : ClassId} {hx hm : Nat} {th : Int32} {WC WM : va_W} (hl0 : l.stackTraces = false) (h : RS cF cI hx hm th WC WM) : StD l D cF cI cJ cD hx hm yLaw_apart (.codeWith yLaw_apart cLaw_apart 3 (some .int) [(0, 7, 10, 15)]) yMod_apart (.code yMod_apart cMod_apart 4 (some .double)) [] WC WM := by
  obtain ⟨ad, bd, a, z, t, lb, np, nd, ns, nu, sp, sp2, pl, pg, pl2, pg2, xx, mm, mm2, yy, yy2, rr, ww, ww2, xf, wk, yc, yd, wa, wo, wp, rM, f, kc, ll, kc2, ll2, lM, kM, td, rfl, rfl, rfl, rfl, hR⟩ := h
  have hR0 := hR
  obtain ⟨⟨⟨ha, hz, ht⟩, hlb, hb⟩, ⟨hxx, hmm, hmm2, hyy, hyy2, hxf, hwk, hyc, hyd⟩, ⟨hww, hww2, hwa, hwp, hrr, hrM⟩, ⟨hs1, hs2, hag⟩, ht0, ht1, ht5, ht6⟩ := hR
  by_cases h1 : sp = 0
  · exact ⟨1, FP.dconst0, FP.dconst0, _, _, fun o f => h_apart_1 rfl (kx_VF_apart_A hl0 (Or.inr h1)) o f FP.dconst0, k_Mod_apart_X h1, fun W2 h2 => by rcases h2 with rfl; exact RS_mk rfl rfl rfl rfl rfl rfl rfl hR0, fun h => absurd h (by decide)⟩
  · by_cases h2 : sp2 = 0
    · exact ⟨1, FP.dconst0, FP.dconst0, _, _, fun o f => h_apart_1 rfl (kx_VF_apart_A hl0 (Or.inl h2)) o f FP.dconst0, k_Mod_apart_Y h1 h2, fun W2 h2 => by rcases h2 with rfl; exact RS_mk rfl rfl rfl rfl rfl rfl rfl hR0, fun h => absurd h (by decide)⟩
    · have e9 := (apart_eq hyy hyy2 (hs1.resolve_left h1) (hs2.resolve_left h2) 16 (Nat.le_refl _)).1
      exact ⟨0, (FP.f2d (f_apart yy2 yy 16)), (FP.f2d (m_ap yc yd 16)), _, _, fun o f => h_apart_R rfl (k_VF_apart_R h1 h2 hyy hyy2) o f, k_Mod_apart_R h1 h2 hyc hyd, fun W2 h2 => by rcases h2 with rfl; exact RS_mk rfl rfl rfl rfl rfl rfl rfl hR0, fun _ => by rw [e9]⟩
theorem rs_reset {l : Launch} {D : va_G} {cF cI cJ cD : ClassId} {hx hm : Nat} {th : Int32} {WC WM : va_W} (h : RS cF cI hx hm th WC WM) : StI l D cF cI hx hm yVF_reset (.code yVF_reset cVF_reset 2 (some .int)) yMod_reset (.code yMod_reset cMod_reset 3 (some .int)) [] WC WM := by
  obtain ⟨ad, bd, a, z, t, lb, np, nd, ns, nu, sp, sp2, pl, pg, pl2, pg2, xx, mm, mm2, yy, yy2, rr, ww, ww2, xf, wk, yc, yd, wa, wo, wp, rM, f, kc, ll, kc2, ll2, lM, kM, td, rfl, rfl, rfl, rfl, hR⟩ := h
  have hR0 := hR
  obtain ⟨⟨⟨ha, hz, ht⟩, hlb, hb⟩, ⟨hxx, hmm, hmm2, hyy, hyy2, hxf, hwk, hyc, hyd⟩, ⟨hww, hww2, hwa, hwp, hrr, hrM⟩, ⟨hs1, hs2, hag⟩, ht0, ht1, ht5, ht6⟩ := hR
  have e0 : (0 : Int32) = nI 0 := by decide
  exact ⟨nI z, _, _, k_VF_reset, k_Mod_reset, fun W2 h2 => by rcases h2 with rfl; exact RS_mk e0 e0 e0 e0 (res_mm mm) (res_mm mm2) rfl ⟨⟨⟨ha, Nat.zero_le _, Nat.le_refl 0⟩, hlb, hb⟩, ⟨hxx, fill_k hmm (by decide), fill_k hmm2 (by decide), fill_k hyy (by decide), fill_k hyy2 (by decide), hxf, hwk, hyc, hyd⟩, ⟨fill_k hww (by decide), fill_k hww2 (by decide), hwa, vup_k (vup_k (vup_k (vup_k (vup_k hwp (k_c0 (by decide))) (k_c0 (by decide))) (k_c0 (by decide))) (k_c0 (by decide))) (k_c0 (by decide)), hrr, hrM⟩, ⟨Or.inl rfl, Or.inl rfl, (fun j h1 h2 => by rcases (show j = 1 ∨ j = 2 ∨ j = 3 ∨ j = 4 by omega) with rfl | rfl | rfl | rfl <;> rfl)⟩, rfl, (fun j h1 h2 => by rcases (show j = 1 ∨ j = 2 ∨ j = 3 ∨ j = 4 by omega) with rfl | rfl | rfl | rfl <;> rfl), (lmax_z ll 16 (Nat.le_refl _)).symm, told_z.symm⟩⟩
theorem rs_thrown {l : Launch} {D : va_G} {cF cI cJ cD : ClassId} {hx hm : Nat} {th : Int32} {WC WM : va_W} (h : RS cF cI hx hm th WC WM) : CI l D cF cI yMod_thrown (.code yMod_thrown cMod_thrown 1 (some .int)) [.ref hm] WM th (fun z => z = WM) := by
  obtain ⟨ad, bd, a, z, t, lb, np, nd, ns, nu, sp, sp2, pl, pg, pl2, pg2, xx, mm, mm2, yy, yy2, rr, ww, ww2, xf, wk, yc, yd, wa, wo, wp, rM, f, kc, ll, kc2, ll2, lM, kM, td, rfl, rfl, rfl, rfl, hR⟩ := h
  exact k_Mod_thrown
theorem rs_0 {l : Launch} {D : va_G} {cF cI cJ cD : ClassId} {hx hm : Nat} {th : Int32} {WC WM : va_W} (h : RS cF cI hx hm th WC WM) : (∃ fs, WC[0]? = some (hx, .inr (5, fs))) ∧ ∃ fs, WM[0]? = some (hm, .inr (6, fs)) := by
  obtain ⟨ad, bd, a, z, t, lb, np, nd, ns, nu, sp, sp2, pl, pg, pl2, pg2, xx, mm, mm2, yy, yy2, rr, ww, ww2, xf, wk, yc, yd, wa, wo, wp, rM, f, kc, ll, kc2, ll2, lM, kM, td, rfl, rfl, rfl, rfl, hR⟩ := h
  exact ⟨⟨_, rfl⟩, ⟨_, rfl⟩⟩
