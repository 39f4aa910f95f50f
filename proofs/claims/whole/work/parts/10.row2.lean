set_option maxHeartbeats 4000000 in
set_option maxRecDepth 100000 in
theorem c_Row_add (l : Launch) (D : va_G) (cF cI : ClassId) (sz : Nat) (h0 h1 : Nat) (f : Nat → Int32) (z : Nat) (rd : Int32) (b : Int32) (hz : z < 120) : Met l yRow_add (.code yRow_add cRow_add 2 none :: TB) ({ frames := 0, cells := 0, slots := 0, locals := 0 }) (va_Pc [.ref h0, .int b] (cPre D cF cI [(h0, .inr (0, [.ref h1, .int (nI z), .int rd])), (h1, .inl (cI, 120, .inl f))] sz)) (va_Qv (fun _ : Unit => True) (cB D cF cI (va_A [(h0, .inr (0, [.ref h1, .int (nI z), .int rd])), (h1, .inl (cI, 120, .inl f))] sz) (fun _ : Unit => [(h0, .inr (0, [.ref h1, .int (nI (z + 1)), .int rd])), (h1, .inl (cI, 120, .inl (upd f z b)))])) (va_A [(h0, .inr (0, [.ref h1, .int (nI z), .int rd])), (h1, .inl (cI, 120, .inl f))] sz)) 0 0 (va_A [(h0, .inr (0, [.ref h1, .int (nI z), .int rd])), (h1, .inl (cI, 120, .inl f))] sz) := by
  refine c_ofW (own := RRow) (by decide) rfl (fun p e s m below meth c hsz hx hb hr hml hown ht hlk hin hP hK hD hmb => ?_)
  subst hsz
  generalize hAe : va_A [(h0, .inr (0, [.ref h1, .int (nI z), .int rd])), (h1, .inl (cI, 120, .inl f))] s.heap.size = A at hD ⊢
  have hA : ∀ q : Nat, s.heap.size ≤ q → A q := fun q h => by rw [← hAe]; exact Or.inr h
  have hS : va_S A s.heap s.heap [] := va_S.rf
  have hl := lv_entry ([.ref h0, .int b]) (n := 2) (Nat.le_of_ble_eq_true rfl)
  rw [lg_entry_eq]
  generalize (lg_sl ([.ref h0, .int b]) ++ List.replicate (2 - (lg_sl ([.ref h0, .int b])).length) Slot.unset).toArray = ls at hl ⊢
  have hl : lv_has ls 2 [(0, .ref h0), (1, .int b)] := hl
  refine lv_aload_n hx hb dRow_add_0 rfl (lv_at hl 0 rfl) ?_
  refine va_get (D := D) (ci := 0) (v := .int (nI z)) hx hb ht inRow hown hK hP 0 rfl rfl 1 (by decide) (ht _ kf_Row_15) (fun _ h9 => h9) rfl dRow_add_1 ?_
  refine lv_bipush (v := 120) hx hb dRow_add_4 (by decide) ?_
  refine lv_icmp_ge (tgt := 29) hx hb dRow_add_6 (by decide) (fun c1 => ?_) (fun c1 => ?_)
  · exact absurd c1 (lt_up (N := 120) (by decide) hz (by decide))
  · refine lv_aload_n hx hb dRow_add_9 rfl (lv_at hl 0 rfl) ?_
    refine va_get (D := D) (ci := 0) (v := .ref h1) hx hb ht inRow hown hK hP 0 rfl rfl 0 (by decide) (ht _ kf_Row_9) (fun _ h9 => h9) rfl dRow_add_10 ?_
    refine lv_aload_n hx hb dRow_add_13 rfl (lv_at hl 0 rfl) ?_
    refine va_get (D := D) (ci := 0) (v := .int (nI z)) hx hb ht inRow hown hK hP 0 rfl rfl 1 (by decide) (ht _ kf_Row_15) (fun _ h9 => h9) rfl dRow_add_14 ?_
    refine lv_iload_n hx hb dRow_add_17 rfl (lv_at hl 1 rfl) ?_
    refine k_iast (j := z) (f1 := upd f z b) hx hb hK hP hD hS 1 1 rfl rfl (vp_in_nI (by omega) (by decide)) (nI_clamp (by omega)) rfl dRow_add_18 (fun H locs hP hD hS => ?_)
    have hP : va_P D vwCl [(h0, .inr (0, [.ref h1, .int (nI z), .int rd])), (h1, .inl (cI, 120, .inl (upd f z b)))] H := hP
    have hD : va_D A [(h0, .inr (0, [.ref h1, .int (nI z), .int rd])), (h1, .inl (cI, 120, .inl (upd f z b)))] := hD
    refine lv_aload_n hx hb dRow_add_19 rfl (lv_at hl 0 rfl) ?_
    refine lv_dup hx hb dRow_add_20 rfl ?_
    refine va_get (D := D) (ci := 0) (v := .int (nI z)) hx hb ht inRow hown hK hP 0 rfl rfl 1 (by decide) (ht _ kf_Row_15) (fun _ h9 => h9) rfl dRow_add_21 ?_
    refine lv_iconst (v := 1) hx hb dRow_add_24 (by decide) ?_
    refine k_iadd (v := nI (z + 1)) hx hb dRow_add_25 (nI_1 z) ?_
    refine va_put (D := D) (ci := 0) (v := .int (nI (z + 1))) (ty := .int) hx hb ht inRow tRow tRow_ok nRow hown hK hP hD hS 0 rfl rfl 1 (by decide) (ht _ kf_Row_15) (fun _ h9 => h9) rfl (by decide +kernel) rfl rfl (Nat.le_of_ble_eq_true rfl) dRow_add_26 (fun H locs hP hD hS => ?_)
    have hP : va_P D vwCl [(h0, .inr (0, [.ref h1, .int (nI (z + 1)), .int rd])), (h1, .inl (cI, 120, .inl (upd f z b)))] H := hP
    have hD : va_D A [(h0, .inr (0, [.ref h1, .int (nI (z + 1)), .int rd])), (h1, .inl (cI, 120, .inl (upd f z b)))] := hD
    have hP := hP.sub (ws' := [(h0, .inr (0, [.ref h1, .int (nI (z + 1)), .int rd])), (h1, .inl (cI, 120, .inl (upd f z b)))]) [0, 1] rfl
    have hD := hD.sub (ws' := [(h0, .inr (0, [.ref h1, .int (nI (z + 1)), .int rd])), (h1, .inl (cI, 120, .inl (upd f z b)))]) [0, 1] (by decide) rfl
    exact e_v () hx hb hr hlk hK hP hD hS rfl trivial dRow_add_29

set_option maxHeartbeats 4000000 in
set_option maxRecDepth 100000 in
theorem c_Row_init (l : Launch) (D : va_G) (cF cI : ClassId) (sz : Nat) (h0 : Nat) : Met l yRow_init (.code yRow_init cRow_init 1 none :: TB) ({ frames := 1, cells := 1, slots := 120, locals := 13 }) (va_Pc [.ref h0] (cPre D cF cI [(h0, .inr (0, [.null, .int 0, .int 0]))] sz)) (va_Qv (fun _ : Nat => True) (cB D cF cI (va_A [(h0, .inr (0, [.null, .int 0, .int 0]))] sz) (fun u : Nat => [(h0, .inr (0, [.ref u, .int 0, .int 0])), (u, .inl (cI, 120, .inl (fun _ => 0)))])) (va_A [(h0, .inr (0, [.null, .int 0, .int 0]))] sz)) 1 120 (va_A [(h0, .inr (0, [.null, .int 0, .int 0]))] sz) := by
  refine c_ofW (own := RRow) (by decide) rfl (fun p e s m below meth c hsz hx hb hr hml hown ht hlk hin hP hK hD hmb => ?_)
  subst hsz
  generalize hAe : va_A [(h0, .inr (0, [.null, .int 0, .int 0]))] s.heap.size = A at hD ⊢
  have hA : ∀ q : Nat, s.heap.size ≤ q → A q := fun q h => by rw [← hAe]; exact Or.inr h
  have hS : va_S A s.heap s.heap [] := va_S.rf
  have hl := lv_entry ([.ref h0]) (n := 1) (Nat.le_of_ble_eq_true rfl)
  rw [lg_entry_eq]
  generalize (lg_sl ([.ref h0]) ++ List.replicate (1 - (lg_sl ([.ref h0])).length) Slot.unset).toArray = ls at hl ⊢
  have hl : lv_has ls 1 [(0, .ref h0)] := hl
  refine lv_aload_n hx hb dRow_init_0 rfl (lv_at hl 0 rfl) ?_
  refine W.objInit hx hb hown (ht _ km_Row_3) (ht _ ki_objectInit) (ht _ kc_objectInit) rfl (by rw [hml]; exact hl.1) rfl dRow_init_1 (Nat.le_of_ble_eq_true rfl) (Nat.le_of_ble_eq_true rfl) ?_
  refine W.eq (g2 := F0 m 4 ls []) rfl ?_
  refine lv_aload_n hx hb dRow_init_4 rfl (lv_at hl 0 rfl) ?_
  refine lv_bipush (v := 120) hx hb dRow_init_5 (by decide) ?_
  refine n_arr (ty := .int) (n := 120) (N := 120) (a0 := (120, .inl (fun _ => 0))) 1 hx hb (ht _ ka_int) rfl hK hP hD hS hA (fun _ => rfl) (by decide) (by decide) (by decide) (Nat.le_of_ble_eq_true rfl) (Nat.le_of_ble_eq_true rfl) rfl dRow_init_7 (fun q1 H hP hD hS => ?_)
  have hP : va_P D vwCl [(h0, .inr (0, [.null, .int 0, .int 0])), (q1, .inl (cI, 120, .inl (fun _ => 0)))] H := hP
  have hD : va_D A [(h0, .inr (0, [.null, .int 0, .int 0])), (q1, .inl (cI, 120, .inl (fun _ => 0)))] := hD
  refine va_putF (D := D) (ci := 0) (v := .ref q1) (ty := (.array (.int))) hx hb ht inRow tRow tRow_ok nRow hown hK hP hD hS 0 rfl rfl 0 (by decide) (ht _ kf_Row_9) (fun _ h9 => h9) rfl hin rfl (by decide +kernel) rfl rfl (Nat.le_of_ble_eq_true rfl) dRow_init_9 (fun H locs hP hD hS => ?_)
  have hP : va_P D vwCl [(h0, .inr (0, [.ref q1, .int 0, .int 0])), (q1, .inl (cI, 120, .inl (fun _ => 0)))] H := hP
  have hD : va_D A [(h0, .inr (0, [.ref q1, .int 0, .int 0])), (q1, .inl (cI, 120, .inl (fun _ => 0)))] := hD
  have hP := hP.sub (ws' := [(h0, .inr (0, [.ref q1, .int 0, .int 0])), (q1, .inl (cI, 120, .inl (fun _ => 0)))]) [0, 1] rfl
  have hD := hD.sub (ws' := [(h0, .inr (0, [.ref q1, .int 0, .int 0])), (q1, .inl (cI, 120, .inl (fun _ => 0)))]) [0, 1] (by decide) rfl
  exact e_v (q1) hx hb hr hlk hK hP hD hS rfl trivial dRow_init_12

def r_chk (f : Nat → Int32) (rs rd lim : Int32) : Nat → Nat → Bool
  | 0, _ => true
  | n + 1, i => if r_next f rs rd (nI i) ≤ lim then r_chk f rs rd lim n (i + 1) else false
theorem chk_t {f : Nat → Int32} {rs rd lim : Int32} {n i : Nat} (h : r_next f rs rd (nI i) ≤ lim) : r_chk f rs rd lim (n + 1) i = r_chk f rs rd lim n (i + 1) := if_pos h
theorem chk_f {f : Nat → Int32} {rs rd lim : Int32} {n i : Nat} (h : ¬ r_next f rs rd (nI i) ≤ lim) : r_chk f rs rd lim (n + 1) i = false := if_neg h
def r_sound (f : Nat → Int32) (rs rd : Int32) : Int32 := if r_mark (r_next f rs rd 0) = 0 then 0 else if r_next f rs rd 13 = r_sum f rs rd 13 &&& 255 then (if r_chk f rs rd 30 4 1 then (if r_chk f rs rd 63 8 5 then 1 else 0) else 0) else 0

set_option maxHeartbeats 4000000 in
set_option maxRecDepth 100000 in
theorem c_Row_nextIsSound (l : Launch) (D : va_G) (cF cI : ClassId) (sz : Nat) (h0 h1 : Nat) (f : Nat → Int32) (rs : Int32) (rd : Int32) (hr0 : rs ≤ 120) : Met l yRow_nextIsSound (.code yRow_nextIsSound cRow_nextIsSound 2 (some .boolean) :: TB) ({ frames := 3, cells := 0, slots := 0, locals := 65 }) (va_Pc [.ref h0] (cPre D cF cI [(h0, .inr (0, [.ref h1, .int rs, .int rd])), (h1, .inl (cI, 120, .inl f))] sz)) (va_Qi (fun (r : Int32) (_ : Unit) => r = r_sound f rs rd) (cB D cF cI (va_A [(h0, .inr (0, [.ref h1, .int rs, .int rd])), (h1, .inl (cI, 120, .inl f))] sz) (fun _ : Unit => [(h0, .inr (0, [.ref h1, .int rs, .int rd])), (h1, .inl (cI, 120, .inl f))])) (va_A [(h0, .inr (0, [.ref h1, .int rs, .int rd])), (h1, .inl (cI, 120, .inl f))] sz)) 0 0 (va_A [(h0, .inr (0, [.ref h1, .int rs, .int rd])), (h1, .inl (cI, 120, .inl f))] sz) := by
  refine c_ofW (own := RRow) (by decide) rfl (fun p e s m below meth c hsz hx hb hr hml hown ht hlk hin hP hK hD hmb => ?_)
  subst hsz
  generalize hAe : va_A [(h0, .inr (0, [.ref h1, .int rs, .int rd])), (h1, .inl (cI, 120, .inl f))] s.heap.size = A at hD ⊢
  have hA : ∀ q : Nat, s.heap.size ≤ q → A q := fun q h => by rw [← hAe]; exact Or.inr h
  have hS : va_S A s.heap s.heap [] := va_S.rf
  have hl := lv_entry ([.ref h0]) (n := 2) (Nat.le_of_ble_eq_true rfl)
  rw [lg_entry_eq]
  generalize (lg_sl ([.ref h0]) ++ List.replicate (2 - (lg_sl ([.ref h0])).length) Slot.unset).toArray = ls at hl ⊢
  have hl : lv_has ls 2 [(0, .ref h0)] := hl
  refine lv_aload_n hx hb dRow_nextIsSound_0 rfl (lv_at hl 0 rfl) ?_
  refine lv_iconst (v := 0) hx hb dRow_nextIsSound_1 (by decide) ?_
  refine q_i (wc := [(h0, .inr (0, [.ref h1, .int rs, .int rd])), (h1, .inl (cI, 120, .inl f))]) (wr := []) [0, 1] [] hK hP hD hS hA rfl rfl (by decide) (by decide) (va_runV (As := [.int 0]) (rest := []) ⟨hx, hb, hml, hown, ht⟩ (c_Row_next l D cF cI s.heap.size h0 h1 f rs rd 0 hr0) (cwV 1 ht (g_V km_Row_26 ki_Row_next kv_Row_next kI_Row kc_Row_next) rfl rfl rfl (by decide +kernel) ⟨Nat.le_of_ble_eq_true rfl, Nat.le_of_ble_eq_true rfl⟩) (cPre_V (ci := 0) (q0 := 0) hK hmb (hP.sub (ws' := [(h0, .inr (0, [.ref h1, .int rs, .int rd])), (h1, .inl (cI, 120, .inl f))]) [0, 1] rfl) (hD.sub (ws' := [(h0, .inr (0, [.ref h1, .int rs, .int rd])), (h1, .inl (cI, 120, .inl f))]) [0, 1] (by decide) rfl) rfl rfl) rfl rfl hl.1 rfl (lv_room (Nat.le_of_ble_eq_true rfl)) dRow_nextIsSound_2 ⟨Nat.le_of_ble_eq_true rfl, Nat.le_of_ble_eq_true rfl⟩) (fun r1 u2 H locs w3 hP hD hS => ?_)
  subst w3
  have hP : va_P D vwCl [(h0, .inr (0, [.ref h1, .int rs, .int rd])), (h1, .inl (cI, 120, .inl f))] H := hP
  have hD : va_D A [(h0, .inr (0, [.ref h1, .int rs, .int rd])), (h1, .inl (cI, 120, .inl f))] := hD
  refine q_i (wc := []) (wr := [(h0, .inr (0, [.ref h1, .int rs, .int rd])), (h1, .inl (cI, 120, .inl f))]) [] [0, 1] hK hP hD hS hA rfl rfl (by decide) (by decide) (va_runS (As := [.int (r_next f rs rd 0)]) (rest := []) ⟨hx, hb, hml, hown, ht⟩ (c_Row_isCodedMark l D cF cI H.size (r_next f rs rd 0)) (va_cwS 1 ht (g_S km_Row_30 ks_Row_isCodedMark kI_Row kc_Row_isCodedMark) rfl rfl rfl (by decide +kernel) ⟨Nat.le_of_ble_eq_true rfl, Nat.le_of_ble_eq_true rfl⟩) (cPre_S hK hmb (hP.sub (ws' := []) [] rfl) (hD.sub (ws' := []) [] (by decide) rfl)) rfl rfl hl.1 rfl (lv_room (Nat.le_of_ble_eq_true rfl)) dRow_nextIsSound_5 ⟨Nat.le_of_ble_eq_true rfl, Nat.le_of_ble_eq_true rfl⟩) (fun r4 u5 H locs w6 hP hD hS => ?_)
  subst w6
  have hP : va_P D vwCl [(h0, .inr (0, [.ref h1, .int rs, .int rd])), (h1, .inl (cI, 120, .inl f))] H := hP
  have hD : va_D A [(h0, .inr (0, [.ref h1, .int rs, .int rd])), (h1, .inl (cI, 120, .inl f))] := hD
  refine lv_if_eq (tgt := 24) hx hb dRow_nextIsSound_8 (by decide) (fun c7 => ?_) (fun c7 => ?_)
  · refine lv_iconst (v := 0) hx hb dRow_nextIsSound_24 (by decide) ?_
    have hP := hP.sub (ws' := [(h0, .inr (0, [.ref h1, .int rs, .int rd])), (h1, .inl (cI, 120, .inl f))]) [0, 1] rfl
    have hD := hD.sub (ws' := [(h0, .inr (0, [.ref h1, .int rs, .int rd])), (h1, .inl (cI, 120, .inl f))]) [0, 1] (by decide) rfl
    exact e_z () hx hb hr hlk hK hP hD hS rfl rfl (by unfold r_sound; rw [if_pos c7]) dRow_nextIsSound_25
  · refine lv_aload_n hx hb dRow_nextIsSound_11 rfl (lv_at hl 0 rfl) ?_
    refine lv_bipush (v := 13) hx hb dRow_nextIsSound_12 (by decide) ?_
    refine q_i (wc := [(h0, .inr (0, [.ref h1, .int rs, .int rd])), (h1, .inl (cI, 120, .inl f))]) (wr := []) [0, 1] [] hK hP hD hS hA rfl rfl (by decide) (by decide) (va_runV (As := [.int 13]) (rest := []) ⟨hx, hb, hml, hown, ht⟩ (c_Row_next l D cF cI H.size h0 h1 f rs rd 13 hr0) (cwV 1 ht (g_V km_Row_26 ki_Row_next kv_Row_next kI_Row kc_Row_next) rfl rfl rfl (by decide +kernel) ⟨Nat.le_of_ble_eq_true rfl, Nat.le_of_ble_eq_true rfl⟩) (cPre_V (ci := 0) (q0 := 0) hK hmb (hP.sub (ws' := [(h0, .inr (0, [.ref h1, .int rs, .int rd])), (h1, .inl (cI, 120, .inl f))]) [0, 1] rfl) (hD.sub (ws' := [(h0, .inr (0, [.ref h1, .int rs, .int rd])), (h1, .inl (cI, 120, .inl f))]) [0, 1] (by decide) rfl) rfl rfl) rfl rfl hl.1 rfl (lv_room (Nat.le_of_ble_eq_true rfl)) dRow_nextIsSound_14 ⟨Nat.le_of_ble_eq_true rfl, Nat.le_of_ble_eq_true rfl⟩) (fun r8 u9 H locs w10 hP hD hS => ?_)
    subst w10
    have hP : va_P D vwCl [(h0, .inr (0, [.ref h1, .int rs, .int rd])), (h1, .inl (cI, 120, .inl f))] H := hP
    have hD : va_D A [(h0, .inr (0, [.ref h1, .int rs, .int rd])), (h1, .inl (cI, 120, .inl f))] := hD
    refine lv_aload_n hx hb dRow_nextIsSound_17 rfl (lv_at hl 0 rfl) ?_
    refine q_i (wc := [(h0, .inr (0, [.ref h1, .int rs, .int rd])), (h1, .inl (cI, 120, .inl f))]) (wr := []) [0, 1] [] hK hP hD hS hA rfl rfl (by decide) (by decide) (va_runV (As := []) (rest := [.int (r_next f rs rd 13)]) ⟨hx, hb, hml, hown, ht⟩ (c_Row_nextSum l D cF cI H.size h0 h1 f rs rd hr0) (cwV 0 ht (g_V km_Row_33 ki_Row_nextSum kv_Row_nextSum kI_Row kc_Row_nextSum) rfl rfl rfl (by decide +kernel) ⟨Nat.le_of_ble_eq_true rfl, Nat.le_of_ble_eq_true rfl⟩) (cPre_V (ci := 0) (q0 := 0) hK hmb (hP.sub (ws' := [(h0, .inr (0, [.ref h1, .int rs, .int rd])), (h1, .inl (cI, 120, .inl f))]) [0, 1] rfl) (hD.sub (ws' := [(h0, .inr (0, [.ref h1, .int rs, .int rd])), (h1, .inl (cI, 120, .inl f))]) [0, 1] (by decide) rfl) rfl rfl) rfl rfl hl.1 rfl (lv_room (Nat.le_of_ble_eq_true rfl)) dRow_nextIsSound_18 ⟨Nat.le_of_ble_eq_true rfl, Nat.le_of_ble_eq_true rfl⟩) (fun r11 u12 H locs w13 hP hD hS => ?_)
    subst w13
    have hP : va_P D vwCl [(h0, .inr (0, [.ref h1, .int rs, .int rd])), (h1, .inl (cI, 120, .inl f))] H := hP
    have hD : va_D A [(h0, .inr (0, [.ref h1, .int rs, .int rd])), (h1, .inl (cI, 120, .inl f))] := hD
    refine lv_icmp_eq (tgt := 26) hx hb dRow_nextIsSound_21 (by decide) (fun c14 => ?_) (fun c14 => ?_)
    · refine lv_iconst (v := 1) hx hb dRow_nextIsSound_26 (by decide) ?_
      refine lv_istore_n (lv' := [(1, .int 1), (0, .ref h0)]) hx hb dRow_nextIsSound_27 rfl hl (by decide) rfl (fun ls hl => ?_)
      have loop1 : ∀ (n i : Nat), i + n = 5 → r_sound f rs rd = (if r_chk f rs rd 30 n i then (if r_chk f rs rd 63 8 5 then 1 else 0) else 0) → ∀ (H : Heap) (locs : List Loc), va_P D vwCl [(h0, .inr (0, [.ref h1, .int rs, .int rd])), (h1, .inl (cI, 120, .inl f))] H → va_D A [(h0, .inr (0, [.ref h1, .int rs, .int rd])), (h1, .inl (cI, 120, .inl f))] → va_S A s.heap H locs → ∀ (ls : Array Slot), lv_has ls 2 [(1, .int (nI i)), (0, .ref h0)] → W p l e ({ frames := 3, cells := 0, slots := 0, locals := 65 } : Room) s m ([.ref h0] : List Value).toArray below meth c H locs 0 0 (MQ below (va_Qi (fun (r : Int32) (_ : Unit) => r = r_sound f rs rd) (cB D cF cI A (fun _ : Unit => [(h0, .inr (0, [.ref h1, .int rs, .int rd])), (h1, .inl (cI, 120, .inl f))])) A) ([.ref h0] : List Value).toArray s 0 0 A) (F0 m 28 ls []) := by
        intro n
        induction n with
        | zero =>
          intro i hi hv H locs hP hD hS ls hl
          obtain rfl : 5 = i := by omega
          refine lv_iload_n hx hb dRow_nextIsSound_28 rfl (lv_at hl 0 rfl) ?_
          refine lv_iconst (v := 5) hx hb dRow_nextIsSound_29 (by decide) ?_
          refine lv_icmp_ge (tgt := 51) hx hb dRow_nextIsSound_30 (by decide) (fun c15 => ?_) (fun c15 => ?_)
          · refine lv_iconst (v := 5) hx hb dRow_nextIsSound_51 (by decide) ?_
            refine lv_istore_n (lv' := [(1, .int 5), (0, .ref h0)]) hx hb dRow_nextIsSound_52 rfl hl (by decide) rfl (fun ls hl => ?_)
            have loop2 : ∀ (n i : Nat), i + n = 13 → r_sound f rs rd = (if r_chk f rs rd 63 n i then 1 else 0) → ∀ (H : Heap) (locs : List Loc), va_P D vwCl [(h0, .inr (0, [.ref h1, .int rs, .int rd])), (h1, .inl (cI, 120, .inl f))] H → va_D A [(h0, .inr (0, [.ref h1, .int rs, .int rd])), (h1, .inl (cI, 120, .inl f))] → va_S A s.heap H locs → ∀ (ls : Array Slot), lv_has ls 2 [(1, .int (nI i)), (0, .ref h0)] → W p l e ({ frames := 3, cells := 0, slots := 0, locals := 65 } : Room) s m ([.ref h0] : List Value).toArray below meth c H locs 0 0 (MQ below (va_Qi (fun (r : Int32) (_ : Unit) => r = r_sound f rs rd) (cB D cF cI A (fun _ : Unit => [(h0, .inr (0, [.ref h1, .int rs, .int rd])), (h1, .inl (cI, 120, .inl f))])) A) ([.ref h0] : List Value).toArray s 0 0 A) (F0 m 53 ls []) := by
              intro n
              induction n with
              | zero =>
                intro i hi hv H locs hP hD hS ls hl
                obtain rfl : 13 = i := by omega
                refine lv_iload_n hx hb dRow_nextIsSound_53 rfl (lv_at hl 0 rfl) ?_
                refine lv_bipush (v := 13) hx hb dRow_nextIsSound_54 (by decide) ?_
                refine lv_icmp_ge (tgt := 77) hx hb dRow_nextIsSound_56 (by decide) (fun c16 => ?_) (fun c16 => ?_)
                · refine lv_iconst (v := 1) hx hb dRow_nextIsSound_77 (by decide) ?_
                  have hP := hP.sub (ws' := [(h0, .inr (0, [.ref h1, .int rs, .int rd])), (h1, .inl (cI, 120, .inl f))]) [0, 1] rfl
                  have hD := hD.sub (ws' := [(h0, .inr (0, [.ref h1, .int rs, .int rd])), (h1, .inl (cI, 120, .inl f))]) [0, 1] (by decide) rfl
                  exact e_z () hx hb hr hlk hK hP hD hS rfl rfl (by rw [hv]; rfl) dRow_nextIsSound_78
                · exact absurd (by decide) c16
              | succ n ih =>
                intro i hi hv H locs hP hD hS ls hl
                have hi1 : i < 13 := by omega
                refine lv_iload_n hx hb dRow_nextIsSound_53 rfl (lv_at hl 0 rfl) ?_
                refine lv_bipush (v := 13) hx hb dRow_nextIsSound_54 (by decide) ?_
                refine lv_icmp_ge (tgt := 77) hx hb dRow_nextIsSound_56 (by decide) (fun c17 => ?_) (fun c17 => ?_)
                · exact absurd c17 (lt_up (N := 13) (by decide) hi1 (by decide))
                · refine lv_aload_n hx hb dRow_nextIsSound_59 rfl (lv_at hl 1 rfl) ?_
                  refine lv_iload_n hx hb dRow_nextIsSound_60 rfl (lv_at hl 0 rfl) ?_
                  refine q_i (wc := [(h0, .inr (0, [.ref h1, .int rs, .int rd])), (h1, .inl (cI, 120, .inl f))]) (wr := []) [0, 1] [] hK hP hD hS hA rfl rfl (by decide) (by decide) (va_runV (As := [.int (nI i)]) (rest := []) ⟨hx, hb, hml, hown, ht⟩ (c_Row_next l D cF cI H.size h0 h1 f rs rd (nI i) hr0) (cwV 1 ht (g_V km_Row_26 ki_Row_next kv_Row_next kI_Row kc_Row_next) rfl rfl rfl (by decide +kernel) ⟨Nat.le_of_ble_eq_true rfl, Nat.le_of_ble_eq_true rfl⟩) (cPre_V (ci := 0) (q0 := 0) hK hmb (hP.sub (ws' := [(h0, .inr (0, [.ref h1, .int rs, .int rd])), (h1, .inl (cI, 120, .inl f))]) [0, 1] rfl) (hD.sub (ws' := [(h0, .inr (0, [.ref h1, .int rs, .int rd])), (h1, .inl (cI, 120, .inl f))]) [0, 1] (by decide) rfl) rfl rfl) rfl rfl hl.1 rfl (lv_room (Nat.le_of_ble_eq_true rfl)) dRow_nextIsSound_61 ⟨Nat.le_of_ble_eq_true rfl, Nat.le_of_ble_eq_true rfl⟩) (fun r18 u19 H locs w20 hP hD hS => ?_)
                  subst w20
                  have hP : va_P D vwCl [(h0, .inr (0, [.ref h1, .int rs, .int rd])), (h1, .inl (cI, 120, .inl f))] H := hP
                  have hD : va_D A [(h0, .inr (0, [.ref h1, .int rs, .int rd])), (h1, .inl (cI, 120, .inl f))] := hD
                  refine lv_bipush (v := 63) hx hb dRow_nextIsSound_64 (by decide) ?_
                  refine lv_icmp_le (tgt := 71) hx hb dRow_nextIsSound_66 (by decide) (fun c21 => ?_) (fun c21 => ?_)
                  · refine lv_iinc (v := nI (i + 1)) (lv' := [(1, .int (nI (i + 1))), (0, .ref h0)]) hx hb dRow_nextIsSound_71 hl (k := 0) rfl (nI_1 i) (by decide) rfl (fun ls hl => ?_)
                    refine lv_goto (tgt := 53) hx hb dRow_nextIsSound_74 (by decide) ?_
                    exact ih (i + 1) (by omega) (by rw [hv, chk_t c21]) _ _ (hP.sub (ws' := [(h0, .inr (0, [.ref h1, .int rs, .int rd])), (h1, .inl (cI, 120, .inl f))]) [0, 1] rfl) (hD.sub (ws' := [(h0, .inr (0, [.ref h1, .int rs, .int rd])), (h1, .inl (cI, 120, .inl f))]) [0, 1] (by decide) rfl) hS ls (lv_sub hl [0, 1] rfl)
                  · refine lv_iconst (v := 0) hx hb dRow_nextIsSound_69 (by decide) ?_
                    have hP := hP.sub (ws' := [(h0, .inr (0, [.ref h1, .int rs, .int rd])), (h1, .inl (cI, 120, .inl f))]) [0, 1] rfl
                    have hD := hD.sub (ws' := [(h0, .inr (0, [.ref h1, .int rs, .int rd])), (h1, .inl (cI, 120, .inl f))]) [0, 1] (by decide) rfl
                    exact e_z () hx hb hr hlk hK hP hD hS rfl rfl (by rw [hv, chk_f c21]; rfl) dRow_nextIsSound_70
            exact loop2 8 5 (by omega) (by rw [hv]; rfl) _ _ (hP.sub (ws' := [(h0, .inr (0, [.ref h1, .int rs, .int rd])), (h1, .inl (cI, 120, .inl f))]) [0, 1] rfl) (hD.sub (ws' := [(h0, .inr (0, [.ref h1, .int rs, .int rd])), (h1, .inl (cI, 120, .inl f))]) [0, 1] (by decide) rfl) hS ls (by have hl := lv_sub hl (l' := [(1, .int 5), (0, .ref h0)]) [0, 1] rfl; try rw [show (5 : Int32) = nI 5 from (by decide)] at hl; exact hl)
          · exact absurd (by decide) c15
        | succ n ih =>
          intro i hi hv H locs hP hD hS ls hl
          have hi1 : i < 5 := by omega
          refine lv_iload_n hx hb dRow_nextIsSound_28 rfl (lv_at hl 0 rfl) ?_
          refine lv_iconst (v := 5) hx hb dRow_nextIsSound_29 (by decide) ?_
          refine lv_icmp_ge (tgt := 51) hx hb dRow_nextIsSound_30 (by decide) (fun c22 => ?_) (fun c22 => ?_)
          · exact absurd c22 (lt_up (N := 5) (by decide) hi1 (by decide))
          · refine lv_aload_n hx hb dRow_nextIsSound_33 rfl (lv_at hl 1 rfl) ?_
            refine lv_iload_n hx hb dRow_nextIsSound_34 rfl (lv_at hl 0 rfl) ?_
            refine q_i (wc := [(h0, .inr (0, [.ref h1, .int rs, .int rd])), (h1, .inl (cI, 120, .inl f))]) (wr := []) [0, 1] [] hK hP hD hS hA rfl rfl (by decide) (by decide) (va_runV (As := [.int (nI i)]) (rest := []) ⟨hx, hb, hml, hown, ht⟩ (c_Row_next l D cF cI H.size h0 h1 f rs rd (nI i) hr0) (cwV 1 ht (g_V km_Row_26 ki_Row_next kv_Row_next kI_Row kc_Row_next) rfl rfl rfl (by decide +kernel) ⟨Nat.le_of_ble_eq_true rfl, Nat.le_of_ble_eq_true rfl⟩) (cPre_V (ci := 0) (q0 := 0) hK hmb (hP.sub (ws' := [(h0, .inr (0, [.ref h1, .int rs, .int rd])), (h1, .inl (cI, 120, .inl f))]) [0, 1] rfl) (hD.sub (ws' := [(h0, .inr (0, [.ref h1, .int rs, .int rd])), (h1, .inl (cI, 120, .inl f))]) [0, 1] (by decide) rfl) rfl rfl) rfl rfl hl.1 rfl (lv_room (Nat.le_of_ble_eq_true rfl)) dRow_nextIsSound_35 ⟨Nat.le_of_ble_eq_true rfl, Nat.le_of_ble_eq_true rfl⟩) (fun r23 u24 H locs w25 hP hD hS => ?_)
            subst w25
            have hP : va_P D vwCl [(h0, .inr (0, [.ref h1, .int rs, .int rd])), (h1, .inl (cI, 120, .inl f))] H := hP
            have hD : va_D A [(h0, .inr (0, [.ref h1, .int rs, .int rd])), (h1, .inl (cI, 120, .inl f))] := hD
            refine lv_bipush (v := 30) hx hb dRow_nextIsSound_38 (by decide) ?_
            refine lv_icmp_le (tgt := 45) hx hb dRow_nextIsSound_40 (by decide) (fun c26 => ?_) (fun c26 => ?_)
            · refine lv_iinc (v := nI (i + 1)) (lv' := [(1, .int (nI (i + 1))), (0, .ref h0)]) hx hb dRow_nextIsSound_45 hl (k := 0) rfl (nI_1 i) (by decide) rfl (fun ls hl => ?_)
              refine lv_goto (tgt := 28) hx hb dRow_nextIsSound_48 (by decide) ?_
              exact ih (i + 1) (by omega) (by rw [hv, chk_t c26]) _ _ (hP.sub (ws' := [(h0, .inr (0, [.ref h1, .int rs, .int rd])), (h1, .inl (cI, 120, .inl f))]) [0, 1] rfl) (hD.sub (ws' := [(h0, .inr (0, [.ref h1, .int rs, .int rd])), (h1, .inl (cI, 120, .inl f))]) [0, 1] (by decide) rfl) hS ls (lv_sub hl [0, 1] rfl)
            · refine lv_iconst (v := 0) hx hb dRow_nextIsSound_43 (by decide) ?_
              have hP := hP.sub (ws' := [(h0, .inr (0, [.ref h1, .int rs, .int rd])), (h1, .inl (cI, 120, .inl f))]) [0, 1] rfl
              have hD := hD.sub (ws' := [(h0, .inr (0, [.ref h1, .int rs, .int rd])), (h1, .inl (cI, 120, .inl f))]) [0, 1] (by decide) rfl
              exact e_z () hx hb hr hlk hK hP hD hS rfl rfl (by rw [hv, chk_f c26]; rfl) dRow_nextIsSound_44
      exact loop1 4 1 (by omega) (by unfold r_sound; rw [if_neg c7, if_pos c14]) _ _ (hP.sub (ws' := [(h0, .inr (0, [.ref h1, .int rs, .int rd])), (h1, .inl (cI, 120, .inl f))]) [0, 1] rfl) (hD.sub (ws' := [(h0, .inr (0, [.ref h1, .int rs, .int rd])), (h1, .inl (cI, 120, .inl f))]) [0, 1] (by decide) rfl) hS ls (by have hl := lv_sub hl (l' := [(1, .int 1), (0, .ref h0)]) [0, 1] rfl; try rw [show (1 : Int32) = nI 1 from (by decide)] at hl; exact hl)
    · refine lv_iconst (v := 0) hx hb dRow_nextIsSound_24 (by decide) ?_
      have hP := hP.sub (ws' := [(h0, .inr (0, [.ref h1, .int rs, .int rd])), (h1, .inl (cI, 120, .inl f))]) [0, 1] rfl
      have hD := hD.sub (ws' := [(h0, .inr (0, [.ref h1, .int rs, .int rd])), (h1, .inl (cI, 120, .inl f))]) [0, 1] (by decide) rfl
      exact e_z () hx hb hr hlk hK hP hD hS rfl rfl (by unfold r_sound; rw [if_neg c7, if_neg c14]) dRow_nextIsSound_25

def a_fill {α : Type} (f : Nat → α) (v : α) (k : Nat) : Nat → α := fun j => if j < k then v else f j
theorem a_fill_0 {α : Type} (f : Nat → α) (v : α) : a_fill f v 0 = f := by funext j; simp [a_fill]
theorem a_fill_s {α : Type} (f : Nat → α) (v : α) (k : Nat) : vf_upd (a_fill f v k) k v = a_fill f v (k + 1) := by
  funext j
  unfold vf_upd a_fill
  by_cases h : j = k
  · subst h; simp
  · rw [if_neg h]
    by_cases h2 : j < k
    · rw [if_pos h2, if_pos (by omega)]
    · rw [if_neg h2, if_neg (by omega)]
theorem a_fill_i (f : Nat → Int32) (v : Int32) (k : Nat) : upd (a_fill f v k) k v = a_fill f v (k + 1) := a_fill_s f v k

set_option maxHeartbeats 4000000 in
set_option maxRecDepth 100000 in
theorem c_Arr_fill_F (l : Launch) (D : va_G) (cF cI : ClassId) (sz : Nat) (h0 : Nat) (nn : Nat) (f : Nat → UInt32) (v : UInt32) (hn9 : nn < 2147483648) : Met l yArr_fill_F (.code yArr_fill_F cArr_fill_F 4 none :: TB) ({ frames := 0, cells := 0, slots := 0, locals := 0 }) (va_Pc [.ref h0, .float v] (cPre D cF cI [(h0, .inl (cF, nn, .inr (.inr (.inl f))))] sz)) (va_Qv (fun _ : Unit => True) (cB D cF cI (va_A [(h0, .inl (cF, nn, .inr (.inr (.inl f))))] sz) (fun _ : Unit => [(h0, .inl (cF, nn, .inr (.inr (.inl (a_fill f v nn)))))])) (va_A [(h0, .inl (cF, nn, .inr (.inr (.inl f))))] sz)) 0 0 (va_A [(h0, .inl (cF, nn, .inr (.inr (.inl f))))] sz) := by
  refine c_ofW (own := RArr) (by decide) rfl (fun p e s m below meth c hsz hx hb hr hml hown ht hlk hin hP hK hD hmb => ?_)
  subst hsz
  generalize hAe : va_A [(h0, .inl (cF, nn, .inr (.inr (.inl f))))] s.heap.size = A at hD ⊢
  have hA : ∀ q : Nat, s.heap.size ≤ q → A q := fun q h => by rw [← hAe]; exact Or.inr h
  have hS : va_S A s.heap s.heap [] := va_S.rf
  have hl := lv_entry ([.ref h0, .float v]) (n := 4) (Nat.le_of_ble_eq_true rfl)
  rw [lg_entry_eq]
  generalize (lg_sl ([.ref h0, .float v]) ++ List.replicate (4 - (lg_sl ([.ref h0, .float v])).length) Slot.unset).toArray = ls at hl ⊢
  have hl : lv_has ls 4 [(0, .ref h0), (1, .float v)] := hl
  refine lv_iconst (v := 0) hx hb dArr_fill_F_0 (by decide) ?_
  refine lv_istore_n (lv' := [(2, .int 0), (0, .ref h0), (1, .float v)]) hx hb dArr_fill_F_1 rfl hl (by decide) rfl (fun ls hl => ?_)
  refine lv_aload_n hx hb dArr_fill_F_2 rfl (lv_at hl 1 rfl) ?_
  refine va_alen (v := nI nn) hx hb hK hP 0 0 rfl rfl rfl dArr_fill_F_3 ?_
  refine lv_istore_n (lv' := [(3, .int (nI nn)), (2, .int 0), (0, .ref h0), (1, .float v)]) hx hb dArr_fill_F_4 rfl hl (by decide) rfl (fun ls hl => ?_)
  have loop1 : ∀ (n i : Nat), i + n = nn → ∀ (H : Heap) (locs : List Loc), va_P D vwCl [(h0, .inl (cF, nn, .inr (.inr (.inl (a_fill f v i)))))] H → va_D A [(h0, .inl (cF, nn, .inr (.inr (.inl (a_fill f v i)))))] → va_S A s.heap H locs → ∀ (ls : Array Slot), lv_has ls 4 [(2, .int (nI i)), (3, .int (nI nn)), (1, .float v), (0, .ref h0)] → W p l e ({ frames := 0, cells := 0, slots := 0, locals := 0 } : Room) s m ([.ref h0, .float v] : List Value).toArray below meth c H locs 0 0 (MQ below (va_Qv (fun _ : Unit => True) (cB D cF cI A (fun _ : Unit => [(h0, .inl (cF, nn, .inr (.inr (.inl (a_fill f v nn)))))])) A) ([.ref h0, .float v] : List Value).toArray s 0 0 A) (F0 m 5 ls []) := by
    intro n
    induction n with
    | zero =>
      intro i hi H locs hP hD hS ls hl
      obtain rfl : nn = i := by omega
      refine lv_iload_n hx hb dArr_fill_F_5 rfl (lv_at hl 0 rfl) ?_
      refine lv_iload_n hx hb dArr_fill_F_6 rfl (lv_at hl 1 rfl) ?_
      refine lv_icmp_ge (tgt := 20) hx hb dArr_fill_F_7 (by decide) (fun c1 => ?_) (fun c1 => ?_)
      · have hP := hP.sub (ws' := [(h0, .inl (cF, nn, .inr (.inr (.inl (a_fill f v nn)))))]) [0] rfl
        have hD := hD.sub (ws' := [(h0, .inl (cF, nn, .inr (.inr (.inl (a_fill f v nn)))))]) [0] (by decide) rfl
        exact e_v () hx hb hr hlk hK hP hD hS rfl trivial dArr_fill_F_20
      · exact absurd (Int32.le_refl _) c1
    | succ n ih =>
      intro i hi H locs hP hD hS ls hl
      have hi1 : i < nn := by omega
      refine lv_iload_n hx hb dArr_fill_F_5 rfl (lv_at hl 0 rfl) ?_
      refine lv_iload_n hx hb dArr_fill_F_6 rfl (lv_at hl 1 rfl) ?_
      refine lv_icmp_ge (tgt := 20) hx hb dArr_fill_F_7 (by decide) (fun c2 => ?_) (fun c2 => ?_)
      · exact absurd c2 (lt_up rfl hi1 hn9)
      · refine lv_aload_n hx hb dArr_fill_F_10 rfl (lv_at hl 3 rfl) ?_
        refine lv_iload_n hx hb dArr_fill_F_11 rfl (lv_at hl 0 rfl) ?_
        refine lv_fload_n hx hb dArr_fill_F_12 rfl (lv_at hl 2 rfl) ?_
        refine k_fast (j := i) (f1 := a_fill f v (i + 1)) hx hb hK hP hD hS 0 0 rfl rfl (vp_in_nI hi1 hn9) (nI_clamp (by omega)) (a_fill_s f v i) dArr_fill_F_13 (fun H locs hP hD hS => ?_)
        have hP : va_P D vwCl [(h0, .inl (cF, nn, .inr (.inr (.inl (a_fill f v (i + 1))))))] H := hP
        have hD : va_D A [(h0, .inl (cF, nn, .inr (.inr (.inl (a_fill f v (i + 1))))))] := hD
        refine lv_iinc (v := nI (i + 1)) (lv' := [(2, .int (nI (i + 1))), (3, .int (nI nn)), (1, .float v), (0, .ref h0)]) hx hb dArr_fill_F_14 hl (k := 0) rfl (nI_1 i) (by decide) rfl (fun ls hl => ?_)
        refine lv_goto (tgt := 5) hx hb dArr_fill_F_17 (by decide) ?_
        exact ih (i + 1) (by omega)  _ _ (hP.sub (ws' := [(h0, .inl (cF, nn, .inr (.inr (.inl (a_fill f v (i + 1))))))]) [0] rfl) (hD.sub (ws' := [(h0, .inl (cF, nn, .inr (.inr (.inl (a_fill f v (i + 1))))))]) [0] (by decide) rfl) hS ls (lv_sub hl [0, 1, 2, 3] rfl)
  rw [← a_fill_0 f v] at hP hD
  exact loop1 (nn - 0) 0 (by omega)  _ _ (hP.sub (ws' := [(h0, .inl (cF, nn, .inr (.inr (.inl (a_fill f v 0)))))]) [0] rfl) (hD.sub (ws' := [(h0, .inl (cF, nn, .inr (.inr (.inl (a_fill f v 0)))))]) [0] (by decide) rfl) hS ls (by have hl := lv_sub hl (l' := [(2, .int 0), (3, .int (nI nn)), (1, .float v), (0, .ref h0)]) [1, 0, 3, 2] rfl; try rw [show (0 : Int32) = nI 0 from (by decide)] at hl; exact hl)

set_option maxHeartbeats 4000000 in
set_option maxRecDepth 100000 in
theorem c_Arr_fill_I (l : Launch) (D : va_G) (cF cI : ClassId) (sz : Nat) (h0 : Nat) (nn : Nat) (f : Nat → Int32) (v : Int32) (hn9 : nn < 2147483648) : Met l yArr_fill_I (.code yArr_fill_I cArr_fill_I 4 none :: TB) ({ frames := 0, cells := 0, slots := 0, locals := 0 }) (va_Pc [.ref h0, .int v] (cPre D cF cI [(h0, .inl (cI, nn, .inl f))] sz)) (va_Qv (fun _ : Unit => True) (cB D cF cI (va_A [(h0, .inl (cI, nn, .inl f))] sz) (fun _ : Unit => [(h0, .inl (cI, nn, .inl (a_fill f v nn)))])) (va_A [(h0, .inl (cI, nn, .inl f))] sz)) 0 0 (va_A [(h0, .inl (cI, nn, .inl f))] sz) := by
  refine c_ofW (own := RArr) (by decide) rfl (fun p e s m below meth c hsz hx hb hr hml hown ht hlk hin hP hK hD hmb => ?_)
  subst hsz
  generalize hAe : va_A [(h0, .inl (cI, nn, .inl f))] s.heap.size = A at hD ⊢
  have hA : ∀ q : Nat, s.heap.size ≤ q → A q := fun q h => by rw [← hAe]; exact Or.inr h
  have hS : va_S A s.heap s.heap [] := va_S.rf
  have hl := lv_entry ([.ref h0, .int v]) (n := 4) (Nat.le_of_ble_eq_true rfl)
  rw [lg_entry_eq]
  generalize (lg_sl ([.ref h0, .int v]) ++ List.replicate (4 - (lg_sl ([.ref h0, .int v])).length) Slot.unset).toArray = ls at hl ⊢
  have hl : lv_has ls 4 [(0, .ref h0), (1, .int v)] := hl
  refine lv_iconst (v := 0) hx hb dArr_fill_I_0 (by decide) ?_
  refine lv_istore_n (lv' := [(2, .int 0), (0, .ref h0), (1, .int v)]) hx hb dArr_fill_I_1 rfl hl (by decide) rfl (fun ls hl => ?_)
  refine lv_aload_n hx hb dArr_fill_I_2 rfl (lv_at hl 1 rfl) ?_
  refine va_alen (v := nI nn) hx hb hK hP 0 1 rfl rfl rfl dArr_fill_I_3 ?_
  refine lv_istore_n (lv' := [(3, .int (nI nn)), (2, .int 0), (0, .ref h0), (1, .int v)]) hx hb dArr_fill_I_4 rfl hl (by decide) rfl (fun ls hl => ?_)
  have loop1 : ∀ (n i : Nat), i + n = nn → ∀ (H : Heap) (locs : List Loc), va_P D vwCl [(h0, .inl (cI, nn, .inl (a_fill f v i)))] H → va_D A [(h0, .inl (cI, nn, .inl (a_fill f v i)))] → va_S A s.heap H locs → ∀ (ls : Array Slot), lv_has ls 4 [(2, .int (nI i)), (3, .int (nI nn)), (1, .int v), (0, .ref h0)] → W p l e ({ frames := 0, cells := 0, slots := 0, locals := 0 } : Room) s m ([.ref h0, .int v] : List Value).toArray below meth c H locs 0 0 (MQ below (va_Qv (fun _ : Unit => True) (cB D cF cI A (fun _ : Unit => [(h0, .inl (cI, nn, .inl (a_fill f v nn)))])) A) ([.ref h0, .int v] : List Value).toArray s 0 0 A) (F0 m 5 ls []) := by
    intro n
    induction n with
    | zero =>
      intro i hi H locs hP hD hS ls hl
      obtain rfl : nn = i := by omega
      refine lv_iload_n hx hb dArr_fill_I_5 rfl (lv_at hl 0 rfl) ?_
      refine lv_iload_n hx hb dArr_fill_I_6 rfl (lv_at hl 1 rfl) ?_
      refine lv_icmp_ge (tgt := 20) hx hb dArr_fill_I_7 (by decide) (fun c1 => ?_) (fun c1 => ?_)
      · have hP := hP.sub (ws' := [(h0, .inl (cI, nn, .inl (a_fill f v nn)))]) [0] rfl
        have hD := hD.sub (ws' := [(h0, .inl (cI, nn, .inl (a_fill f v nn)))]) [0] (by decide) rfl
        exact e_v () hx hb hr hlk hK hP hD hS rfl trivial dArr_fill_I_20
      · exact absurd (Int32.le_refl _) c1
    | succ n ih =>
      intro i hi H locs hP hD hS ls hl
      have hi1 : i < nn := by omega
      refine lv_iload_n hx hb dArr_fill_I_5 rfl (lv_at hl 0 rfl) ?_
      refine lv_iload_n hx hb dArr_fill_I_6 rfl (lv_at hl 1 rfl) ?_
      refine lv_icmp_ge (tgt := 20) hx hb dArr_fill_I_7 (by decide) (fun c2 => ?_) (fun c2 => ?_)
      · exact absurd c2 (lt_up rfl hi1 hn9)
      · refine lv_aload_n hx hb dArr_fill_I_10 rfl (lv_at hl 3 rfl) ?_
        refine lv_iload_n hx hb dArr_fill_I_11 rfl (lv_at hl 0 rfl) ?_
        refine lv_iload_n hx hb dArr_fill_I_12 rfl (lv_at hl 2 rfl) ?_
        refine k_iast (j := i) (f1 := a_fill f v (i + 1)) hx hb hK hP hD hS 0 1 rfl rfl (vp_in_nI hi1 hn9) (nI_clamp (by omega)) (a_fill_i f v i) dArr_fill_I_13 (fun H locs hP hD hS => ?_)
        have hP : va_P D vwCl [(h0, .inl (cI, nn, .inl (a_fill f v (i + 1))))] H := hP
        have hD : va_D A [(h0, .inl (cI, nn, .inl (a_fill f v (i + 1))))] := hD
        refine lv_iinc (v := nI (i + 1)) (lv' := [(2, .int (nI (i + 1))), (3, .int (nI nn)), (1, .int v), (0, .ref h0)]) hx hb dArr_fill_I_14 hl (k := 0) rfl (nI_1 i) (by decide) rfl (fun ls hl => ?_)
        refine lv_goto (tgt := 5) hx hb dArr_fill_I_17 (by decide) ?_
        exact ih (i + 1) (by omega)  _ _ (hP.sub (ws' := [(h0, .inl (cI, nn, .inl (a_fill f v (i + 1))))]) [0] rfl) (hD.sub (ws' := [(h0, .inl (cI, nn, .inl (a_fill f v (i + 1))))]) [0] (by decide) rfl) hS ls (lv_sub hl [0, 1, 2, 3] rfl)
  rw [← a_fill_0 f v] at hP hD
  exact loop1 (nn - 0) 0 (by omega)  _ _ (hP.sub (ws' := [(h0, .inl (cI, nn, .inl (a_fill f v 0)))]) [0] rfl) (hD.sub (ws' := [(h0, .inl (cI, nn, .inl (a_fill f v 0)))]) [0] (by decide) rfl) hS ls (by have hl := lv_sub hl (l' := [(2, .int 0), (3, .int (nI nn)), (1, .int v), (0, .ref h0)]) [1, 0, 3, 2] rfl; try rw [show (0 : Int32) = nI 0 from (by decide)] at hl; exact hl)
