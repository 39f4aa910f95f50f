/-! THE CLAIM OUT OF ONE WALK OF THE LAW'S BODY. Your part is whole_start (and what it stands on); all else here is the same for every law, but numbers. -/
def R_law : String := "VoiceForgeLaw"
def lw_P (b : Addr) (xs : List Int32) (args : Array Value) (s : State) : Prop := args = #[.ref b] ∧ s.IntsAt b xs ∧ xs.length ≤ 1536 ∧ (Jvm.Cond.and given_1 narrow_1).before args s = true
def lw_Q (_ : Array Value) (s : State) (o : Outcome) (t : State) : Prop := o = .returned (some (.int 1)) ∧ Framed s o t [] 1077 8891
def lw_Z (below : List Frame) (a : Array Value) (s : State) : State → Prop := fun t => ∃ o, t.status = .running ∧ Ended t below o ∧ lw_Q a s o t
/-- the law's own end, with 1 on the stack, nothing written that was there before, its room as the claim has it -/
theorem lw_ret {p : Program} {l : Launch} {e : Env} {s : State} {m : MethodId} {below : List Frame} {meth : Method} {c : Code} {b : Nat} (hx : p.tables.exec = Jvm.exec) (hb : c.code = code) (hr : meth.sig.returnType = ret) (hlocks : meth.locks = false) {pc : Nat} {H : Heap} {ls : Array Slot} (hdg : decode code pc = .ok (.ireturn, 1)) : W p l e room_1 s m #[Value.ref b] below meth c H [] 1077 8891 (lw_Z below #[Value.ref b] s) (F0 m pc ls [.int 1]) := by
  intro T hT X
  obtain ⟨fs, hret, hrun, hended, hW, hframe⟩ := X.leave (v := some (.int 1)) (hlocks := hlocks) (fun h => by rw [hr] at h; cases h)
  have hmeth' : T.vm.method? m = some meth := X.method'
  refine ⟨T.setFrames fs, ?_, .returned (some (.int 1)), hrun, hended, rfl, ⟨_, rfl⟩, hW, hframe⟩
  jvm_step X.here [X.here.top, hx, hb, hdg, hmeth', hr, ret, narrow_b1]
  (try refine ⟨rfl, ?_⟩); (try refine ⟨rfl, ?_⟩)
  first | (intro acts; rw [hret _ acts rfl rfl rfl]) | rw [hret _ _ rfl rfl rfl]
  exact Steps.refl _
/-- what holds at the law's entry: the machine, the code, the tables' words (any of lw_tbl by 'hts w (by decide +kernel)'), the script of L ints xs at the cell b, what the Statement gives of the start (any of its parts by flat_of_before) -/
def lw_At (p : Program) (s : State) (m : MethodId) (meth : Method) (c : Code) (b L : Nat) (xs : Nat → Int32) : Prop :=
  p.tables.exec = Jvm.exec ∧ c.code = code ∧ meth.sig.returnType = ret ∧ c.maxLocals = 9 ∧ s.vm.findClass R_law = some m.cls ∧ (∀ w ∈ lw_tbl, w.before #[Value.ref b] s = true) ∧ va_X b L xs s s.heap ∧ b < s.heap.size ∧ meth.locks = false ∧ (Jvm.Cond.and given_1 narrow_1).before #[Value.ref b] s = true
/-! THE LAW'S LOOP -/
theorem and15 (x : Int32) : ∃ j : Nat, j < 16 ∧ x &&& 15 = nI j := by
  obtain ⟨j, hj, e⟩ := pk_andE x (m := 15) 4 (by decide)
  exact ⟨j, by omega, e⟩
section Loop
variable {p : Program} {l : Launch} {e : Env} {s : State} {m : MethodId} {below : List Frame} {meth : Method} {c : Code}
variable {D : va_G} {cF cI cJ cD : ClassId} {b0 L o od hx hm : Nat} {xs : Nat → Int32}
set_option maxRecDepth 100000 in
set_option maxHeartbeats 4000000 in
theorem lw_loop (C : LX p l room_1 s m meth c D cF cI cJ cD b0 L xs) (hr : meth.sig.returnType = ret) : ∀ (n k : Nat), L ≤ 3 * k + n → 3 * k ≤ L → NX p l e room_1 s m below meth c D cF cI cJ cD b0 o od hx hm (39 + k) (615 + 6 * k) (lw_Z below #[Value.ref b0] s) (3 * k) 28 := by
  obtain ⟨hx9, hb9, hml9, hown9, ht9, hX9, hbl9, hlk9, -, -, -, -, hl0, -, -, hL9⟩ := id C
  intro n
  induction n with
  | zero =>
    intro k h1 h2 th WC WM f g H locs ls hR hP hD hS hl
    have e3 : (nI L - 3).toInt = (L : Int) - 3 := pk_sub_toInt (b := 3) (by omega) (by decide)
    refine lv_iload hx9 hb9 dLaw_law_28 (lv_at hl 5 rfl) ?_
    refine lv_aload_n hx9 hb9 dLaw_law_30 rfl (lv_at hl 0 rfl) ?_
    refine va_slen hx9 hb9 hX9 hbl9 (fun q => Nat.lt_irrefl _ (Nat.lt_of_lt_of_le hbl9 q)) hS dLaw_law_31 ?_
    refine lv_iconst (v := 3) hx9 hb9 dLaw_law_32 (by decide) ?_
    refine k_isub (v := nI L - 3) hx9 hb9 dLaw_law_33 rfl ?_
    refine lv_icmp_gt (tgt := 784) hx9 hb9 dLaw_law_34 (by decide) (fun _ => ?_) (fun q => absurd (Int32.lt_iff_toInt_lt.mpr (by rw [e3, nI_toInt (by omega)]; omega)) q)
    refine lv_iconst (v := 1) hx9 hb9 dLaw_law_784 (by decide) ?_
    refine W.widen (k := 1077) (n := 8891) (by omega) (by omega) ?_
    refine va_forget (fun q hq => hS.2.2 q hq) ?_
    exact lw_ret hx9 hb9 hr hlk9 dLaw_law_785
  | succ n ih =>
    intro k h1 h2 th WC WM f g H locs ls hR hP hD hS hl
    have e3 : (nI L - 3).toInt = (L : Int) - 3 := pk_sub_toInt (b := 3) (by omega) (by decide)
    refine lv_iload hx9 hb9 dLaw_law_28 (lv_at hl 5 rfl) ?_
    refine lv_aload_n hx9 hb9 dLaw_law_30 rfl (lv_at hl 0 rfl) ?_
    refine va_slen hx9 hb9 hX9 hbl9 (fun q => Nat.lt_irrefl _ (Nat.lt_of_lt_of_le hbl9 q)) hS dLaw_law_31 ?_
    refine lv_iconst (v := 3) hx9 hb9 dLaw_law_32 (by decide) ?_
    refine k_isub (v := nI L - 3) hx9 hb9 dLaw_law_33 rfl ?_
    refine lv_icmp_gt (tgt := 784) hx9 hb9 dLaw_law_34 (by decide) (fun _ => ?_) (fun q => ?_)
    · refine lv_iconst (v := 1) hx9 hb9 dLaw_law_784 (by decide) ?_
      refine W.widen (k := 1077) (n := 8891) (by omega) (by omega) ?_
      refine va_forget (fun q hq => hS.2.2 q hq) ?_
      exact lw_ret hx9 hb9 hr hlk9 dLaw_law_785
    · have hi : 3 * k + 3 ≤ L := by
        rw [Int32.lt_iff_toInt_lt, e3, nI_toInt (by omega)] at q
        omega
      have nx : NX p l e room_1 s m below meth c D cF cI cJ cD b0 o od hx hm (39 + k + 1) (615 + 6 * k + 6) (lw_Z below #[Value.ref b0] s) (3 * k) 778 := by
        intro th WC WM f g H locs ls hR hP hD hS hl
        refine lv_iinc (v := nI (3 * (k + 1))) (lv' := [(5, .int (nI (3 * (k + 1)))), (0, .ref b0), (1, .ref hx), (2, .ref hm), (3, .ref o), (4, .ref od)]) hx9 hb9 dLaw_law_778 hl (k := 5) rfl ((add_lit (k := 3) (by decide)).trans (by rw [Nat.mul_add])) (by decide) rfl (fun ls hl => ?_)
        refine lv_goto (tgt := 28) hx9 hb9 dLaw_law_781 (by decide) ?_
        refine W.widen (k := 39 + (k + 1)) (n := 615 + 6 * (k + 1)) (by omega) (by omega) ?_
        exact ih (k + 1) (by omega) (by omega) th WC WM f g H locs ls hR hP hD hS (lv_sub hl [1, 2, 3, 4, 5, 0] rfl)
      have hc1 : 39 + k + 1 ≤ room_1.cells := by show 39 + k + 1 ≤ 1077; omega
      have hs1 : 615 + 6 * k + 6 ≤ room_1.slots := by show 615 + 6 * k + 6 ≤ 8891; omega
      refine lv_aload_n hx9 hb9 dLaw_law_37 rfl (lv_at hl 0 rfl) ?_
      refine lv_iload hx9 hb9 dLaw_law_38 (lv_at hl 5 rfl) ?_
      refine lsx C hS (j := 3 * k) (by omega) dLaw_law_40 ?_
      refine lv_bipush (v := 15) hx9 hb9 dLaw_law_41 (by decide) ?_
      obtain ⟨j, hj, ej⟩ := and15 (xs (3 * k))
      rcases (show j = 0 ∨ j = 1 ∨ j = 2 ∨ j = 3 ∨ j = 4 ∨ j = 5 ∨ j = 6 ∨ j = 7 ∨ j = 8 ∨ j = 9 ∨ j = 10 ∨ j = 11 ∨ 12 ≤ j by omega) with rfl | rfl | rfl | rfl | rfl | rfl | rfl | rfl | rfl | rfl | rfl | rfl | h12
      · refine k_iand (v := 0) hx9 hb9 dLaw_law_43 (ej.trans (by decide)) ?_
        refine lv_tableIn (off := 64) (tgt := 108) hx9 hb9 dLaw_law_44 (by decide) (by decide) (by decide) (by decide) ?_
        exact lw_sample C hi hc1 hs1 hR hP hD hS hl nx
      · refine k_iand (v := 1) hx9 hb9 dLaw_law_43 (ej.trans (by decide)) ?_
        refine lv_tableIn (off := 130) (tgt := 174) hx9 hb9 dLaw_law_44 (by decide) (by decide) (by decide) (by decide) ?_
        exact lw_linear C hi hc1 hs1 hR hP hD hS hl nx
      · refine k_iand (v := 2) hx9 hb9 dLaw_law_43 (ej.trans (by decide)) ?_
        refine lv_tableIn (off := 171) (tgt := 215) hx9 hb9 dLaw_law_44 (by decide) (by decide) (by decide) (by decide) ?_
        exact lw_encode C hi hc1 hs1 hR hP hD hS hl nx
      · refine k_iand (v := 3) hx9 hb9 dLaw_law_43 (ej.trans (by decide)) ?_
        refine lv_tableIn (off := 215) (tgt := 259) hx9 hb9 dLaw_law_44 (by decide) (by decide) (by decide) (by decide) ?_
        exact lw_decode C hi hc1 hs1 hR hP hD hS hl nx
      · refine k_iand (v := 4) hx9 hb9 dLaw_law_43 (ej.trans (by decide)) ?_
        refine lv_tableIn (off := 259) (tgt := 303) hx9 hb9 dLaw_law_44 (by decide) (by decide) (by decide) (by decide) ?_
        exact lw_out C hi hc1 hs1 hR hP hD hS hl nx
      · refine k_iand (v := 5) hx9 hb9 dLaw_law_43 (ej.trans (by decide)) ?_
        refine lv_tableIn (off := 364) (tgt := 408) hx9 hb9 dLaw_law_44 (by decide) (by decide) (by decide) (by decide) ?_
        exact lw_code C hi hc1 hs1 hR hP hD hS hl nx
      · refine k_iand (v := 6) hx9 hb9 dLaw_law_43 (ej.trans (by decide)) ?_
        refine lv_tableIn (off := 420) (tgt := 464) hx9 hb9 dLaw_law_44 (by decide) (by decide) (by decide) (by decide) ?_
        exact lw_stream C hi hc1 hs1 hR hP hD hS hl nx
      · refine k_iand (v := 7) hx9 hb9 dLaw_law_43 (ej.trans (by decide)) ?_
        refine lv_tableIn (off := 476) (tgt := 520) hx9 hb9 dLaw_law_44 (by decide) (by decide) (by decide) (by decide) ?_
        exact lw_damage C hi hc1 hs1 hR hP hD hS hl nx
      · refine k_iand (v := 8) hx9 hb9 dLaw_law_43 (ej.trans (by decide)) ?_
        refine lv_tableIn (off := 544) (tgt := 588) hx9 hb9 dLaw_law_44 (by decide) (by decide) (by decide) (by decide) ?_
        exact lw_cut C hi hc1 hs1 hR hP hD hS hl nx
      · refine k_iand (v := 9) hx9 hb9 dLaw_law_43 (ej.trans (by decide)) ?_
        refine lv_tableIn (off := 600) (tgt := 644) hx9 hb9 dLaw_law_44 (by decide) (by decide) (by decide) (by decide) ?_
        exact lw_reset C hi hc1 hs1 hR hP hD hS hl nx
      · refine k_iand (v := 10) hx9 hb9 dLaw_law_43 (ej.trans (by decide)) ?_
        refine lv_tableIn (off := 613) (tgt := 657) hx9 hb9 dLaw_law_44 (by decide) (by decide) (by decide) (by decide) ?_
        exact lw_apart C hi hc1 hs1 hR hP hD hS hl nx
      · refine k_iand (v := 11) hx9 hb9 dLaw_law_43 (ej.trans (by decide)) ?_
        refine lv_tableIn (off := 678) (tgt := 722) hx9 hb9 dLaw_law_44 (by decide) (by decide) (by decide) (by decide) ?_
        exact lw_count C hi hc1 hs1 hR hP hD hS hl nx
      · refine k_iand (v := nI j) hx9 hb9 dLaw_law_43 ej ?_
        refine lv_tableOut (tgt := 778) hx9 hb9 dLaw_law_44 (Or.inr (by rw [nI_toInt (by omega)]; omega)) (by decide) ?_
        exact W.widen (k := 39 + k + 1) (n := 615 + 6 * k + 6) (by omega) (by omega) (nx th WC WM f g H locs ls hR hP hD hS hl)
end Loop
/-! THE START -/
theorem pm_S {α : Type} (a b : α) (u v : List α) : (((u ++ v) ++ [a]) ++ [b]).Perm (a :: b :: (u ++ v)) := by
  have h1 : (((u ++ v) ++ [a]) ++ [b]) = (u ++ v) ++ [a, b] := by simp
  rw [h1]
  exact List.perm_append_comm
theorem qa_v {p : Program} {l : Launch} {e : Env} {R : Room} {s : State} {m : MethodId} {args : Array Value} {below : List Frame} {meth : Method} {c : Code} {H : Heap} {locs : List Loc} {cells slots : Nat} {Q : State → Prop} {D : va_G} {cF cI : ClassId} {A0 : Nat → Prop} {pc : Nat} {ls : Array Slot} {H0 : Heap} {st0 rest : List Value} {mc ms : Nat} {a : Array Value} {wc wr : va_W} {S : Type} {post : S → Prop} {w : S → va_W} (hP : va_P D vwCl (wr ++ wc) H) (hD : va_D A0 (wr ++ wc)) (hS : va_S A0 H0 H locs) (hA : ∀ q, H0.size ≤ q → A0 q)
    (hr : va_Run p l e R s m args below meth c H locs cells slots mc ms (F0 m pc ls st0) rest (va_Qv post (cB D cF cI (va_A wc H.size) w) (va_A wc H.size) a) (va_A wc H.size))
    (kk : ∀ (u : S) (H1 : Heap) (locs1 : List Loc), va_P D vwCl (wr ++ w u) H1 → va_D A0 (wr ++ w u) → va_S A0 H0 H1 locs1 → W p l e R s m args below meth c H1 locs1 (cells + mc) (slots + ms) Q (F0 m (pc + 3) ls rest)) : W p l e R s m args below meth c H locs cells slots Q (F0 m pc ls st0) := by
  have hF := freeA hD hS hA
  refine va_callv hr hS (fun q _ h => hF q h) hF (fun u t H1 locs1 ht hvm hw hB hz hk hS1 => ?_)
  obtain ⟨hP1, hK1, hD1⟩ := hB
  rw [ht] at hP1
  obtain ⟨hP2, hD2⟩ := joinA hP hD (wD_left hD) hk hF hP1 hD1
  exact kk u H1 locs1 hP2 hD2 hS1
theorem fk_0 {K : Nat} (h : 1 ≤ K) : FK K (fun _ => 0) := fun _ => k_c0 h
theorem RL_0 : RL 0 0 0 0 0 0 (fun _ => 0) (fun _ => 0) (fun _ => 0) (fun _ => 0) (fun _ => 0) (fun _ => 0) (fun _ => 0) (fun _ => 0) (fun _ => 0) 0 (fun _ => 0) (fun _ => 0) (fun _ => 0) (fun _ => 0) (fun _ => 0) (fun _ => 0) (fun _ => 0) (fun _ => 0) (fun _ => 0) (fun _ => 0) :=
  ⟨⟨⟨by omega, by omega, by omega⟩, Or.inl rfl, fun _ => b_z⟩, ⟨fk_0 (by decide), fk_0 (by decide), fk_0 (by decide), fk_0 (by decide), fk_0 (by decide), fk_0 (by decide), fk_0 (by decide), fk_0 (by decide), fk_0 (by decide)⟩, ⟨fk_0 (by decide), fk_0 (by decide), fk_0 (by decide), fk_0 (by decide), fk_0 (by decide), fk_0 (by decide)⟩,
    ⟨Or.inl rfl, Or.inl rfl, fun _ _ _ => rfl⟩, rfl, fun _ _ _ => rfl, by decide +kernel, by decide +kernel⟩
theorem arr_known {args : Array Value} {s : State} {ty : FieldType} (h : (Cond.arrayClass ty).before args s = true) (hn : ∀ C, ty ≠ .object C) : ∃ cA : ClassId, ArrOfT s cA ty ∧ va_RA s cA ty := by
  obtain ⟨cA, kA, comp, h1, h2, h3⟩ := Cond.arrayClass_spec h
  refine ⟨cA, fun n z => ⟨(fun k h => by cases h), kA, h2, comp, h3⟩, ?_⟩
  cases ty with
  | object C => exact absurd rfl (hn C)
  | _ => exact h1
set_option maxRecDepth 100000 in
theorem lw_known {args : Array Value} {s : State} (ht : ∀ w ∈ TB, w.before args s = true) : ∃ (D : va_G) (cF cI cJ cD : ClassId), va_K D vwCl (TYS4 cF cI cJ cD) s := by
  obtain ⟨c0, i0, k0⟩ := u_known (C := RRow) (T := TRow) (N := 3) (n := 3) ht inRow (ht _ kn_Row)
  obtain ⟨c1, i1, k1⟩ := u_known (C := RCod) (T := TCod) (N := 4) (n := 4) ht inCod (ht _ kn_Cod)
  obtain ⟨c2, i2, k2⟩ := u_known (C := RDec) (T := TDec) (N := 5) (n := 5) ht inDec (ht _ kn_Dec)
  obtain ⟨c3, i3, k3⟩ := u_known (C := RPac) (T := TPac) (N := 5) (n := 5) ht inPac (ht _ kn_Pac)
  obtain ⟨c4, i4, k4⟩ := u_known (C := RVoi) (T := TVoi) (N := 3) (n := 3) ht inVoi (ht _ kn_Voi)
  obtain ⟨c5, i5, k5⟩ := u_known (C := RVF) (T := TVF) (N := 6) (n := 6) ht inVF (ht _ kn_VF)
  obtain ⟨c6, i6, k6⟩ := u_known (C := RMod) (T := TMod) (N := 26) (n := 26) ht inMod (ht _ kn_Mod)
  obtain ⟨cF, aF, rF⟩ := arr_known (ht _ ka_float) (fun C h => by cases h)
  obtain ⟨cI, aI, rI⟩ := arr_known (ht _ ka_int) (fun C h => by cases h)
  obtain ⟨cJ, aJ, rJ⟩ := arr_known (ht _ ka_long) (fun C h => by cases h)
  obtain ⟨cD, aD, rD⟩ := arr_known (ht _ ka_double) (fun C h => by cases h)
  refine ⟨(fun k => match k with | 0 => c0 | 1 => c1 | 2 => c2 | 3 => c3 | 4 => c4 | 5 => c5 | _ => c6, fun k => match k with | 0 => i0 | 1 => i1 | 2 => i2 | 3 => i3 | 4 => i4 | 5 => i5 | _ => i6), cF, cI, cJ, cD, ?_, ?_⟩
  · intro k q hq
    match k, hq with
    | 0, hq => cases hq; exact k0
    | 1, hq => cases hq; exact k1
    | 2, hq => cases hq; exact k2
    | 3, hq => cases hq; exact k3
    | 4, hq => cases hq; exact k4
    | 5, hq => cases hq; exact k5
    | 6, hq => cases hq; exact k6
    | k + 7, hq => simp at hq
  · intro k q hq
    match k, hq with
    | 0, hq => cases hq; exact ⟨aF, rF⟩
    | 1, hq => cases hq; exact ⟨aI, rI⟩
    | 2, hq => cases hq; exact ⟨aJ, rJ⟩
    | 3, hq => cases hq; exact ⟨aD, rD⟩
    | k + 4, hq => simp at hq
/-! WHAT THE STATEMENT GIVES OF THE START -/
set_option maxRecDepth 100000 in
theorem nst_tbl : ∀ w ∈ NST, w ∈ lw_tbl := by decide +kernel
set_option maxRecDepth 100000 in
theorem dcs_tbl : ∀ w ∈ DCS, w ∈ lw_tbl := by decide +kernel
set_option maxRecDepth 100000 in
theorem strs_tbl : ∀ q ∈ STRS, Cond.stringRef RVF q.1 q.2 ∈ lw_tbl := by decide +kernel
set_option maxRecDepth 100000 in
theorem ncs_flat : ∀ q ∈ NCS, Cond.not (.castable q.1 q.2) ∈ flatC (Jvm.Cond.and given_1 narrow_1) := by decide +kernel
theorem nst_tab {w : Cond} (hw : w ∈ NST) : w.onTables = true := by
  obtain ⟨a, i, x, h, rfl⟩ := nst_form w hw
  rfl
theorem amb_of {args : Array Value} {s : State} {cV : ClassId} (hts : ∀ w ∈ lw_tbl, w.before args s = true) (hV : s.vm.findClass RVF = some cV) : AMB s := ⟨fun w hw => va_Nw.of (nst_tab hw) (hts w (nst_tbl w hw)), fun q hq => by
    have h1 := hts _ (strs_tbl q hq)
    obtain ⟨-, -, -, a, -, -, -, -, -, hev⟩ := Cond.stringRef_spec hV h1
    exact ⟨a, vk_R.of h1 hev⟩⟩
theorem amx_of {args : Array Value} {s : State} (hts : ∀ w ∈ lw_tbl, w.before args s = true) (hgv : (Jvm.Cond.and given_1 narrow_1).before args s = true) : AMX s := ⟨fun w hw => va_Nw.of (dcs_tab hw) (hts w (dcs_tbl w hw)), fun q hq => va_Nc.of (flat_of_before _ hgv _ (ncs_flat q hq))⟩
set_option maxRecDepth 100000 in
theorem zu_of {args : Array Value} {s : State} (hts : ∀ w ∈ lw_tbl, w.before args s = true) (hgv : (Jvm.Cond.and given_1 narrow_1).before args s = true) : ZU (LA s) s s.heap :=
  ⟨vx_Zqof (hts (.laysStatic Bundle.tN "UNASSIGNED_STACK" Bundle.steD) (by decide +kernel)) (hts (.initialized Bundle.tN) (by decide +kernel)) (flat_of_before _ hgv (.isRef (.static Bundle.tN "UNASSIGNED_STACK" Bundle.steD)) (by decide +kernel)) (fun a h q => Nat.lt_irrefl _ (Nat.lt_of_lt_of_le h q)),
    vx_Zqof (hts (.laysStatic Bundle.tN "SUPPRESSED_SENTINEL" Bundle.listD) (by decide +kernel)) (hts (.initialized Bundle.tN) (by decide +kernel)) (flat_of_before _ hgv (.isRef (.static Bundle.tN "SUPPRESSED_SENTINEL" Bundle.listD)) (by decide +kernel)) (fun a h q => Nat.lt_irrefl _ (Nat.lt_of_lt_of_le h q))⟩
set_option maxRecDepth 100000 in
set_option maxHeartbeats 4000000 in
theorem whole_start {p : Program} {e : Env} {s : State} {m : MethodId} {below : List Frame} {meth : Method} {c : Code} (l : Launch) (hl0 : l.stackTraces = false) {b L : Nat} {xs : Nat → Int32} (hL : L ≤ 1536) (C0 : lw_At p s m meth c b L xs) : W p l e room_1 s m #[Value.ref b] below meth c s.heap [] 0 0 (lw_Z below #[Value.ref b] s) (entryFrame m ([Value.ref b] : List Value).toArray 9) := by
  obtain ⟨hx, hb, hr, hml, hown, hts, hX, hbl, hlk, hgv⟩ := id C0
  have ht : ∀ w ∈ TB, w.before #[Value.ref b] s = true := fun w h => hts w (tb_tbl h)
  obtain ⟨D, cF, cI, cJ, cD, hK⟩ := lw_known ht
  have hown : s.vm.findClass RLaw = some m.cls := hown
  have hmb : AMB s := amb_of hts (hK.1 5 _ rfl).2.1
  have hmx : AMX s := amx_of hts hgv
  have hZ : ZU (LA s) s s.heap := zu_of hts hgv
  have C : LX p l room_1 s m meth c D cF cI cJ cD b L xs := ⟨hx, hb, hml, hown, ht, hX, hbl, hlk, hK, hmb, hmx, hZ, hl0, Nat.le_of_ble_eq_true rfl, Nat.le_of_ble_eq_true rfl, hL⟩
  have hA : ∀ q : Nat, s.heap.size ≤ q → LA s q := hA_law
  have hS : va_S (LA s) s.heap s.heap [] := va_S.rf
  have hP : va_P D vwCl [] s.heap := fun k q h => by simp at h
  have hD : va_D (LA s) [] := ⟨fun i j p q h => by simp at h, fun k q h => by simp at h⟩
  have hl := lv_entry ([.ref b]) (n := 9) (Nat.le_of_ble_eq_true rfl)
  rw [lg_entry_eq]
  generalize (lg_sl ([.ref b]) ++ List.replicate (9 - (lg_sl ([.ref b])).length) Slot.unset).toArray = ls at hl ⊢
  have hl : lv_has ls 9 [(0, .ref b)] := hl
  refine va_new (ci := 5) (fs := [.null, .int 0, .int 0, .null, .null, .null]) hx hb ht inVF tVF tVF_ok hown (ht _ kl_Law_8) (ht _ kn_VF) (ht _ kI_VF) hK hP hD hS hA rfl (fun j hj => by rcases (show j = 0 ∨ j = 1 ∨ j = 2 ∨ j = 3 ∨ j = 4 ∨ j = 5 by omega) with rfl | rfl | rfl | rfl | rfl | rfl <;> rfl) (Nat.le_of_ble_eq_true rfl) (Nat.le_of_ble_eq_true rfl) dLaw_law_0 (fun q1 H hP hD hS => ?_)
  have hP : va_P D vwCl ([] ++ [(q1, .inr (5, [.null, .int 0, .int 0, .null, .null, .null]))]) H := hP
  have hD : va_D (LA s) ([] ++ [(q1, .inr (5, [.null, .int 0, .int 0, .null, .null, .null]))]) := hD
  refine lv_dup hx hb dLaw_law_3 rfl ?_
  refine qa_v hP hD hS hA (va_runI (As := []) (rest := [.ref q1]) ⟨hx, hb, hml, hown, ht⟩ (c_VF_init l D cF cI H.size q1) (cwI 0 ht (g_C kc_VF_init) rfl rfl rfl (ht _ kI_VF) (ht _ km_Law_53) (ht _ ki_VF_init) rfl (by decide +kernel) ⟨Nat.le_of_ble_eq_true rfl, Nat.le_of_ble_eq_true rfl⟩) (cPre_S (hK.sub [0, 1] rfl) hmb (wP_right hP) (wD_right hD)) rfl rfl hl.1 rfl (lv_room (Nat.le_of_ble_eq_true rfl)) dLaw_law_4 ⟨Nat.le_of_ble_eq_true rfl, Nat.le_of_ble_eq_true rfl⟩) (fun u H locs hP hD hS => ?_)
  obtain ⟨u1, u2, u3, u4, u5, u6, u7, u8, u9, u10, u11, u12, u13, u14, u15, u16, u17, u18, u19, u20⟩ := u
  have hP : va_P D vwCl (WCl cF cI (fun n => [q1, u1, u2, u3, u4, u5, u6, u7, u8, u9, u10, u11, u12, u13, u14, u15, u16, u17, u18, u19, u20].getD n 0) (nI 0) 0 (fun _ => 0) 0 0 (fun _ => 0) 0 (fun _ => 0) (fun _ => 0) 0 0 0 (fun _ => 0) (fun _ => 0) (fun _ => 0) (fun _ => 0) 0 0 0 (fun _ => 0) (fun _ => 0) 0 0 0 (fun _ => 0) (fun _ => 0) (fun _ => 0)) H := hP
  have hD : va_D (LA s) (WCl cF cI (fun n => [q1, u1, u2, u3, u4, u5, u6, u7, u8, u9, u10, u11, u12, u13, u14, u15, u16, u17, u18, u19, u20].getD n 0) (nI 0) 0 (fun _ => 0) 0 0 (fun _ => 0) 0 (fun _ => 0) (fun _ => 0) 0 0 0 (fun _ => 0) (fun _ => 0) (fun _ => 0) (fun _ => 0) 0 0 0 (fun _ => 0) (fun _ => 0) 0 0 0 (fun _ => 0) (fun _ => 0) (fun _ => 0)) := hD
  refine lv_astore_n (lv' := [(1, .ref q1), (0, .ref b)]) hx hb dLaw_law_7 rfl hl (by decide) rfl (fun ls hl => ?_)
  refine va_new (ci := 6) (fs := [.null, .null, .null, .null, .null, .null, .null, .null, .null, .null, .null, .null, .null, .null, .null, .int 0, .int 0, .int 0, .int 0, .int 0, .int 0, .int 0, .int 0, .int 0, .int 0, .int 0]) hx hb ht inMod tMod tMod_ok hown (ht _ kl_Law_54) (ht _ kn_Mod) (ht _ kI_Mod) hK hP hD hS hA rfl (fun j hj => by rcases (show j = 0 ∨ j = 1 ∨ j = 2 ∨ j = 3 ∨ j = 4 ∨ j = 5 ∨ j = 6 ∨ j = 7 ∨ j = 8 ∨ j = 9 ∨ j = 10 ∨ j = 11 ∨ j = 12 ∨ j = 13 ∨ j = 14 ∨ j = 15 ∨ j = 16 ∨ j = 17 ∨ j = 18 ∨ j = 19 ∨ j = 20 ∨ j = 21 ∨ j = 22 ∨ j = 23 ∨ j = 24 ∨ j = 25 by omega) with rfl | rfl | rfl | rfl | rfl | rfl | rfl | rfl | rfl | rfl | rfl | rfl | rfl | rfl | rfl | rfl | rfl | rfl | rfl | rfl | rfl | rfl | rfl | rfl | rfl | rfl <;> rfl) (Nat.le_of_ble_eq_true rfl) (Nat.le_of_ble_eq_true rfl) dLaw_law_8 (fun q2 H hP hD hS => ?_)
  refine lv_dup hx hb dLaw_law_11 rfl ?_
  refine qa_v hP hD hS hA (va_runI (As := []) (rest := [.ref q2]) ⟨hx, hb, hml, hown, ht⟩ (c_Mod_init l D cF cI H.size q2) (cwI 0 ht (g_C kc_Mod_init) rfl rfl rfl (ht _ kI_Mod) (ht _ km_Law_56) (ht _ ki_Mod_init) rfl (by decide +kernel) ⟨Nat.le_of_ble_eq_true rfl, Nat.le_of_ble_eq_true rfl⟩) (cPre_S (hK.sub [0, 1] rfl) hmb (wP_right hP) (wD_right hD)) rfl rfl hl.1 rfl (lv_room (Nat.le_of_ble_eq_true rfl)) dLaw_law_12 ⟨Nat.le_of_ble_eq_true rfl, Nat.le_of_ble_eq_true rfl⟩) (fun u H locs hP hD hS => ?_)
  obtain ⟨w1, w2, w3, w4, w5, w6, w7, w8, w9, w10, w11, w12, w13, w14, w15⟩ := u
  have hP : va_P D vwCl ((WCl cF cI (fun n => [q1, u1, u2, u3, u4, u5, u6, u7, u8, u9, u10, u11, u12, u13, u14, u15, u16, u17, u18, u19, u20].getD n 0) (nI 0) 0 (fun _ => 0) 0 0 (fun _ => 0) 0 (fun _ => 0) (fun _ => 0) 0 0 0 (fun _ => 0) (fun _ => 0) (fun _ => 0) (fun _ => 0) 0 0 0 (fun _ => 0) (fun _ => 0) 0 0 0 (fun _ => 0) (fun _ => 0) (fun _ => 0)) ++ (WMo cF cI (fun n => [q2, w1, w2, w3, w4, w5, w6, w7, w8, w9, w10, w11, w12, w13, w14, w15].getD n 0) (nI 0) 0 0 0 0 0 0 0 0 0 0 (fun _ => 0) (fun _ => 0) (fun _ => 0) (fun _ => 0) (fun _ => 0) (fun _ => 0) (fun _ => 0) (fun _ => 0) (fun _ => 0) (fun _ => 0) (fun _ => 0) (fun _ => 0) (fun _ => 0) (fun _ => 0) (fun _ => 0))) H := hP
  have hD : va_D (LA s) ((WCl cF cI (fun n => [q1, u1, u2, u3, u4, u5, u6, u7, u8, u9, u10, u11, u12, u13, u14, u15, u16, u17, u18, u19, u20].getD n 0) (nI 0) 0 (fun _ => 0) 0 0 (fun _ => 0) 0 (fun _ => 0) (fun _ => 0) 0 0 0 (fun _ => 0) (fun _ => 0) (fun _ => 0) (fun _ => 0) 0 0 0 (fun _ => 0) (fun _ => 0) 0 0 0 (fun _ => 0) (fun _ => 0) (fun _ => 0)) ++ (WMo cF cI (fun n => [q2, w1, w2, w3, w4, w5, w6, w7, w8, w9, w10, w11, w12, w13, w14, w15].getD n 0) (nI 0) 0 0 0 0 0 0 0 0 0 0 (fun _ => 0) (fun _ => 0) (fun _ => 0) (fun _ => 0) (fun _ => 0) (fun _ => 0) (fun _ => 0) (fun _ => 0) (fun _ => 0) (fun _ => 0) (fun _ => 0) (fun _ => 0) (fun _ => 0) (fun _ => 0) (fun _ => 0))) := hD
  have hR : RS cF cI q1 q2 0 (WCl cF cI (fun n => [q1, u1, u2, u3, u4, u5, u6, u7, u8, u9, u10, u11, u12, u13, u14, u15, u16, u17, u18, u19, u20].getD n 0) (nI 0) 0 (fun _ => 0) 0 0 (fun _ => 0) 0 (fun _ => 0) (fun _ => 0) 0 0 0 (fun _ => 0) (fun _ => 0) (fun _ => 0) (fun _ => 0) 0 0 0 (fun _ => 0) (fun _ => 0) 0 0 0 (fun _ => 0) (fun _ => 0) (fun _ => 0)) (WMo cF cI (fun n => [q2, w1, w2, w3, w4, w5, w6, w7, w8, w9, w10, w11, w12, w13, w14, w15].getD n 0) (nI 0) 0 0 0 0 0 0 0 0 0 0 (fun _ => 0) (fun _ => 0) (fun _ => 0) (fun _ => 0) (fun _ => 0) (fun _ => 0) (fun _ => 0) (fun _ => 0) (fun _ => 0) (fun _ => 0) (fun _ => 0) (fun _ => 0) (fun _ => 0) (fun _ => 0) (fun _ => 0)) := RS_mk (z := 0) (t := 0) (ad := fun n => [q1, u1, u2, u3, u4, u5, u6, u7, u8, u9, u10, u11, u12, u13, u14, u15, u16, u17, u18, u19, u20].getD n 0) (bd := fun n => [q2, w1, w2, w3, w4, w5, w6, w7, w8, w9, w10, w11, w12, w13, w14, w15].getD n 0) (by decide) (by decide) (by decide) (by decide) rfl rfl rfl RL_0
  generalize (WCl cF cI (fun n => [q1, u1, u2, u3, u4, u5, u6, u7, u8, u9, u10, u11, u12, u13, u14, u15, u16, u17, u18, u19, u20].getD n 0) (nI 0) 0 (fun _ => 0) 0 0 (fun _ => 0) 0 (fun _ => 0) (fun _ => 0) 0 0 0 (fun _ => 0) (fun _ => 0) (fun _ => 0) (fun _ => 0) 0 0 0 (fun _ => 0) (fun _ => 0) 0 0 0 (fun _ => 0) (fun _ => 0) (fun _ => 0)) = WC at hP hD hR
  generalize (WMo cF cI (fun n => [q2, w1, w2, w3, w4, w5, w6, w7, w8, w9, w10, w11, w12, w13, w14, w15].getD n 0) (nI 0) 0 0 0 0 0 0 0 0 0 0 (fun _ => 0) (fun _ => 0) (fun _ => 0) (fun _ => 0) (fun _ => 0) (fun _ => 0) (fun _ => 0) (fun _ => 0) (fun _ => 0) (fun _ => 0) (fun _ => 0) (fun _ => 0) (fun _ => 0) (fun _ => 0) (fun _ => 0)) = WM at hP hD hR
  refine lv_astore_n (lv' := [(2, .ref q2), (1, .ref q1), (0, .ref b)]) hx hb dLaw_law_15 rfl hl (by decide) rfl (fun ls hl => ?_)
  refine lv_iconst (v := 1) hx hb dLaw_law_16 (by decide) ?_
  refine n_arr (ty := .long) (n := 1) (N := 1) (a0 := (1, .inr (.inl (fun _ => 0)))) 2 hx hb (ht _ ka_long) rfl hK hP hD hS hA (fun _ => rfl) (by decide) (by decide) (by decide) (Nat.le_of_ble_eq_true rfl) (Nat.le_of_ble_eq_true rfl) rfl dLaw_law_17 (fun o H hP hD hS => ?_)
  refine lv_astore_n (lv' := [(3, .ref o), (2, .ref q2), (1, .ref q1), (0, .ref b)]) hx hb dLaw_law_19 rfl hl (by decide) rfl (fun ls hl => ?_)
  refine lv_iconst (v := 1) hx hb dLaw_law_20 (by decide) ?_
  refine n_arr (ty := .double) (n := 1) (N := 1) (a0 := (1, .inr (.inr (.inr (.inl (fun _ => 0)))))) 3 hx hb (ht _ ka_double) rfl hK hP hD hS hA (fun _ => rfl) (by decide) (by decide) (by decide) (Nat.le_of_ble_eq_true rfl) (Nat.le_of_ble_eq_true rfl) rfl dLaw_law_21 (fun od H hP hD hS => ?_)
  refine lv_astore (lv' := [(4, .ref od), (3, .ref o), (2, .ref q2), (1, .ref q1), (0, .ref b)]) hx hb dLaw_law_23 hl (by decide) rfl (fun ls hl => ?_)
  refine lv_iconst (v := 0) hx hb dLaw_law_25 (by decide) ?_
  refine lv_istore (lv' := [(5, .int 0), (4, .ref od), (3, .ref o), (2, .ref q2), (1, .ref q1), (0, .ref b)]) hx hb dLaw_law_26 hl (by decide) rfl (fun ls hl => ?_)
  have hl : lv_has ls 9 [(0, .ref b), (1, .ref q1), (2, .ref q2), (3, .ref o), (4, .ref od), (5, .int (nI 0))] := lv_sub (show lv_has ls 9 [(5, .int (nI 0)), (4, .ref od), (3, .ref o), (2, .ref q2), (1, .ref q1), (0, .ref b)] from hl) [5, 4, 3, 2, 1, 0] rfl
  exact lw_loop C hr L 0 (by omega) (by omega) 0 WC WM (fun _ => 0) (fun _ => 0) H locs ls hR (wP_perm (pm_S _ _ WC WM) hP) (wD_perm (pm_S _ _ WC WM) hD) hS hl
set_option maxHeartbeats 4000000 in
theorem lw_walk (l : Launch) (hl0 : l.stackTraces = false) (b : Addr) (xs : List Int32) : MetFree l x (headSpec (Jvm.Cond.code x code maxLocals ret :: tables_1) room_1) (lw_P b xs) (fun _ _ _ _ _ => True) lw_Q := by
  refine MetFree.of_bodyS (code := code) (maxLocals := maxLocals) (ret := ret) (by decide) ?_ ?_
  · intro args s m h hn
    obtain ⟨meth, c, h1, h2, h3, h4, h5, h6, -, -⟩ := Cond.code_spec hn (atoms_spec (ws := Jvm.Cond.code x code maxLocals ret :: tables_1) h _ List.mem_cons_self)
    exact ⟨meth, c, h1, h2, h3, h4, h5, h6⟩
  · intro p e s m args below meth c s₁ B hml0 hP _
    obtain ⟨rfl, hx, hbd, hgv⟩ := hP
    obtain ⟨scr, harrAt, hlist, hof, hsmall⟩ := hx
    obtain ⟨hcb, hkn, -, -⟩ := State.arrayAt?_spec harrAt
    have hown : s.vm.findClass R_law = some m.cls := findClass_of_methodNamed B.named
    have hts0 : ∀ c ∈ (Jvm.Cond.code x code maxLocals ret :: tables_1), c.before #[Value.ref b] s = true := atoms_spec (ws := Jvm.Cond.code x code maxLocals ret :: tables_1) B.pre
    have hts : ∀ w ∈ lw_tbl, w.before #[Value.ref b] s = true := k2_hts_sels lw_privs (fun w hw => hts0 w (List.mem_cons_of_mem _ hw)) lw_privs_ok
    have hml : c.maxLocals = 9 := B.maxLocals_eq (hts0 _ List.mem_cons_self)
    have X₀ : Stand p l e room_1 s m #[Value.ref b] below meth c s₁ [] 0 0 := Stand.of_body B
    have hh0 : s₁.heap = s.heap := by rw [B.state]; rfl
    have hsz : scr.slots.size = xs.length := by rw [← Array.length_toList, hlist, List.length_map]
    have hval : ∀ j : Nat, j < xs.length → scr.slots[j]? = some (.int (xs.getD j 0)) := fun j hj => by
      rw [← Array.getElem?_toList, hlist]
      simp [hj]
    have hbl : b < s.heap.size := (Array.getElem?_eq_some_iff.mp hcb).1
    have hX : va_X b xs.length (fun j => xs.getD j 0) s s.heap := ⟨scr, hcb, hof, hkn, hsz, hval⟩
    have K : W p l e room_1 s m #[Value.ref b] below meth c s₁.heap [] 0 0 (lw_Z below #[Value.ref b] s) (entryFrame m ([Value.ref b] : List Value).toArray 9) := by
      rw [hh0]
      exact whole_start l hl0 hbd ⟨B.exec, B.bytes, B.returns, hml, hown, hts, hX, hbl, B.notSynchronized, hgv⟩
    obtain ⟨t, a1, o, b1, b2, b3⟩ := K s₁ rfl X₀
    exact ⟨t, o, a1, b1, b2, b3⟩
theorem lw_pre_spec {args : Array Value} {s : State} (h : (Jvm.Cond.and given_1 narrow_1).before args s = true) (hr : rest_1_c.before args s = true) : ∃ (b : Addr) (xs : List Int32), lw_P b xs args s := by
  have hs := flat_of_before _ h
  have hq := flat_of_before _ hr
  have hc : (Cond.count 1).before args s = true := hs _ (by decide +kernel)
  have harr : (Cond.arrayOf (.arg 0) .int).before args s = true := hs _ (by decide +kernel)
  have hle : (Cond.le (.length (.arg 0)) (.int 1536)).before args s = true := hs _ (by decide +kernel)
  have hlen : (Cond.isInt (.length (.arg 0))).before args s = true := hq _ (by decide +kernel)
  have hall : (Cond.all (.arg 0) (.isInt (.elem (.arg 0) (.index 0)))).before args s = true := hq _ (by decide +kernel)
  obtain ⟨b, xs, hb, hx⟩ := State.ints_of_pre rfl harr hlen hall
  have hsm : xs.length < 2 ^ 31 := hx.choose_spec.2.2.2
  have hev : (Term.length (.arg 0)).eval args s none [] s = some (.int xs.length.toInt32) := hx.length_eval hb
  have hv := Cond.le_ints hev (show (Term.int 1536).eval args s none [] s = some (.int 1536) from rfl)
  have hd : xs.length.toInt32 ≤ 1536 := by
    simpa [Cond.before, Cond.holds, hv] using hle
  have hN : xs.length ≤ 1536 := (Int32.ofNat_le_ofNat hsm (by decide)).mp (show Int32.ofNat xs.length ≤ Int32.ofNat 1536 from hd)
  exact ⟨b, xs, Cond.one_arg hc (show args[0]? = some (.ref b) from hb), hx, hN, h⟩
theorem lw_comes (l : Launch) (hl0 : l.stackTraces = false) : Comes l x (Jvm.Cond.code x code maxLocals ret :: tables_1) room_1 (fun tb e args s => Calls_1 tb e args s ∧ rest_1 tb e args s ∧ Pre_1 tb e args s)
    (fun _ _ args s o t => lw_Q args s o t) := by
  intro p e ha hc hk s m args below hf hfit hheap happ hpre
  obtain ⟨b, xs, hP⟩ := lw_pre_spec hpre.2.2 hpre.2.1
  obtain ⟨k, o, h1, h2, h3, hQ⟩ := lw_walk l hl0 b xs p e ha hc hk s m args below hf ((Spec.applies_iff_loose hf).mp happ).1 hP trivial
  exact ⟨k, o, h1, h2, h3, hQ⟩
theorem lw_frame {s t : State} {o : Outcome} {args : Array Value} (h : Framed s o t [] 1077 8891) :
    Framed s o t (fieldLocs frame_1_writes args s ++ arrayLocs frame_1_arrays args s ++ staticLocs frame_1_statics s) 1077 8891 := h
theorem lw_limb (L : Cond) (hL : ∀ (args : Array Value) (s t : State), L.after args s (.returned (some (.int 1))) t = true) :
    ArmFor flags0 classFile x code maxLocals ret World_1 tables_1 room_1 Calls_1 rest_1 Pre_1
      (fun tb e a s o t => postC L tb e a s o t ∧ Framed s o t (fieldLocs frame_1_writes a s ++ arrayLocs frame_1_arrays a s ++ staticLocs frame_1_statics s) 1077 8891) := by
  intro l hfl _ _ p e ha hc hk s m args below hf hfit hheap happ hpre
  have hl0 : l.stackTraces = false := by
    show (!l.flags.contains Jvm.noTraceFlag) = false
    rw [hfl]
    decide +kernel
  obtain ⟨k, o, h1, h2, h3, rfl, hF⟩ := lw_comes l hl0 p e ha hc hk s m args below hf hfit hheap happ hpre
  exact ⟨k, _, h1, h2, h3, hL args s _, lw_frame hF⟩
theorem i_vc : Claimed_1_1 ∧ Claimed_1_2 := ⟨lw_limb limb_1_1 (fun args s t => by simp [limb_1_1, Cond.after, Cond.holds, Cond.value]), lw_limb limb_1_2 (fun args s t => Cond.after_iff.mpr (by
  first | (rw [show limb_1_2 = Cond.eq .result (.int 1) from rfl, Cond.eq_ints (x := 1) (y := 1) rfl rfl]; simp; done) | (simp [limb_1_2, Cond.value, Term.eval]; done)))⟩
