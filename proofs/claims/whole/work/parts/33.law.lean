/-! THE LAW'S CASES -/
abbrev TW (cJ cD : ClassId) (o od : Nat) (f : Nat → Int64) (g : Nat → UInt64) (WC WM : va_W) : va_W := (o, .inl (cJ, 1, .inr (.inl f))) :: (od, .inl (cD, 1, .inr (.inr (.inr (.inl g))))) :: (WC ++ WM)
theorem pm_J {α : Type} (a b : α) (u v : List α) : (a :: b :: (u ++ v)).Perm ((b :: v) ++ (a :: u)) := by
  have h1 : ((b :: v) ++ (a :: u)).Perm ((a :: u) ++ (b :: v)) := List.perm_append_comm
  have h2 : ((a :: u) ++ (b :: v)).Perm (a :: b :: (u ++ v)) := List.Perm.cons a List.perm_middle
  exact (h1.trans h2).symm
theorem pm_D {α : Type} (a b : α) (u v : List α) : (a :: b :: (u ++ v)).Perm ((a :: v) ++ (b :: u)) := (List.Perm.swap b a _).trans (pm_J b a u v)
theorem pm_C {α : Type} (a b : α) (u v : List α) : (a :: b :: (u ++ v)).Perm ((a :: b :: v) ++ u) := List.Perm.cons a (List.Perm.cons b List.perm_append_comm)
theorem lgc (x : Int64) : lg_cmp x x = 0 := by simp [lg_cmp]
theorem d8_fin : Jvm.FP.Core.DFin 4593671619917905920 := (Jvm.FP.Core.fin_bits _).mpr (by decide)
theorem d8_n (x : Int32) : vf_n64 (FP.dmul (FP.i2d x) 4593671619917905920) := n64_of (Jvm.FP.Core.dmul_out (Jvm.FP.Core.i2d_fin x) d8_fin)
section Law
variable {p : Program} {l : Launch} {e : Env} {R : Room} {s : State} {m : MethodId} {below : List Frame} {meth : Method} {c : Code} {H : Heap} {locs : List Loc} {cells slots : Nat} {Q : State → Prop}
variable {D : va_G} {cF cI cJ cD : ClassId} {b0 L o od hx hm : Nat} {xs : Nat → Int32} {f : Nat → Int64} {g : Nat → UInt64} {WC WM : va_W} {ls : Array Slot} {pc i : Nat} {th : Int32}
abbrev LA (s : State) : Nat → Prop := fun q => s.heap.size ≤ q
def LX (p : Program) (l : Launch) (R : Room) (s : State) (m : MethodId) (meth : Method) (c : Code) (D : va_G) (cF cI cJ cD : ClassId) (b0 L : Nat) (xs : Nat → Int32) : Prop :=
  p.tables.exec = Jvm.exec ∧ c.code = cLaw_law ∧ c.maxLocals = 9 ∧ s.vm.findClass RLaw = some m.cls ∧ (∀ w ∈ TB, w.before #[Value.ref b0] s = true) ∧ va_X b0 L xs s s.heap ∧ b0 < s.heap.size ∧ meth.locks = false ∧
  va_K D vwCl (TYS4 cF cI cJ cD) s ∧ AMB s ∧ AMX s ∧ ZU (LA s) s s.heap ∧ l.stackTraces = false ∧ 10 ≤ R.frames ∧ 344 ≤ R.locals ∧ L ≤ 1536
/-- the law stands at pc with the two objects alike -/
def NX (p : Program) (l : Launch) (e : Env) (R : Room) (s : State) (m : MethodId) (below : List Frame) (meth : Method) (c : Code) (D : va_G) (cF cI cJ cD : ClassId) (b0 o od hx hm : Nat) (cells slots : Nat) (Q : State → Prop) (i pc : Nat) : Prop :=
  ∀ (th : Int32) (WC WM : va_W) (f : Nat → Int64) (g : Nat → UInt64) (H : Heap) (locs : List Loc) (ls : Array Slot), RS cF cI hx hm th WC WM → va_P D vwCl (TW cJ cD o od f g WC WM) H → va_D (LA s) (TW cJ cD o od f g WC WM) → va_S (LA s) s.heap H locs → lv_has ls 9 [(0, .ref b0), (1, .ref hx), (2, .ref hm), (3, .ref o), (4, .ref od), (5, .int (nI i))] →
    W p l e R s m #[Value.ref b0] below meth c H locs cells slots Q (F0 m pc ls [])
theorem hA_law : ∀ q, s.heap.size ≤ q → LA s q := fun _ h => h
theorem lcJ {y : MethodName} {idx mL n : Nat} {bs : ByteArray} {hh : List (Nat × Nat × Nat × Nat)} {as st : List Value} {k v : Int32} {P : va_W → Prop} (C : LX p l R s m meth c D cF cI cJ cD b0 L xs) (h1 : Cond.methodLink RLaw idx y ∈ TB) (h2 : Cond.static y ∈ TB) (hy : y.cls = RLaw) (h5 : Cond.codeWith y bs mL (some .int) hh ∈ TB)
    (hd : y.cls ≠ "java/lang/invoke/MethodHandle" ∧ y.cls ≠ "java/lang/invoke/VarHandle" ∧ (parseMethodDescriptor y.desc).map (fun d => d.parameters.length) = some n) (hn : as.length = n) (hst : st = as.reverse) (hmL : mL ≤ 5) (hdg : decode cLaw_law pc = .ok (.invokestatic idx, 3))
    (hJ : HJ l D cF cI cJ cD y (.codeWith y bs mL (some .int) hh) as WC o f k v P) (hP : va_P D vwCl (TW cJ cD o od f g WC WM) H) (hD : va_D (LA s) (TW cJ cD o od f g WC WM)) (hS : va_S (LA s) s.heap H locs) (hlz : ls.size = 9) (hc1 : cells + 1 ≤ R.cells) (hs1 : slots + 6 ≤ R.slots)
    (kk : ∀ (f1 : Nat → Int64) (W1 : va_W) (H1 : Heap) (locs1 : List Loc), P W1 → (k = 0 → f1 0 = v.toInt64) → va_P D vwCl (TW cJ cD o od f1 g W1 WM) H1 → va_D (LA s) (TW cJ cD o od f1 g W1 WM) → va_S (LA s) s.heap H1 locs1 → W p l e R s m #[Value.ref b0] below meth c H1 locs1 (cells + 1) (slots + 6) Q (F0 m (pc + 3) ls [.int k])) :
    W p l e R s m #[Value.ref b0] below meth c H locs cells slots Q (F0 m pc ls st) := by
  obtain ⟨hx, hb, hml, hown, ht, hX, hbl, hlk, hK, hmb, hmx, hZ, hl0, hR1, hR2, hL⟩ := C
  obtain ⟨S, w, fr, mc, ms, lo, hfr, hmc, hms, hlo, hw, hM⟩ := hJ
  have hP2 := wP_perm (pm_J _ _ WC WM) hP
  have hD2 := wD_perm (pm_J _ _ WC WM) hD
  have hF := freeA hD2 hS hA_law
  refine qa_i hP2 hD2 hS hA_law (vx_runSW (rest := []) ⟨hx, hb, hml, hown, ht⟩ (hM H.size) (vx_cwSW n ht (g_SW h1 h2 (by rw [hy]; exact kI_Law) h5) rfl rfl rfl hd ⟨Nat.le_trans (show fr + 1 ≤ 10 by omega) hR1, Nat.le_trans (show 8 + (mL + 11) + lo ≤ 344 by omega) hR2⟩) (hPre_S hK hmb hmx hZ hS hF (wP_right hP2) (wD_right hD2)) rfl hn hlz (by rw [List.append_nil]; exact hst) (lv_room (Nat.le_of_ble_eq_true rfl)) hdg ⟨Nat.le_trans (by omega) hc1, Nat.le_trans (by omega) hs1⟩) (fun r u H1 locs1 hr hP1 hD1 hS1 => ?_)
  subst hr
  obtain ⟨f1, W1, hPW, hv, e9⟩ := hw u
  rw [e9] at hP1 hD1
  exact W.widen (k := cells + 1) (n := slots + 6) (by omega) (by omega) (kk f1 W1 H1 locs1 hPW hv (wP_perm (pm_J _ _ W1 WM).symm hP1) (wD_perm (pm_J _ _ W1 WM).symm hD1) hS1)
theorem lcD {y : MethodName} {idx mL n : Nat} {bs : ByteArray} {hh : List (Nat × Nat × Nat × Nat)} {as st : List Value} {k : Int32} {v : UInt64} {P : va_W → Prop} (C : LX p l R s m meth c D cF cI cJ cD b0 L xs) (h1 : Cond.methodLink RLaw idx y ∈ TB) (h2 : Cond.static y ∈ TB) (hy : y.cls = RLaw) (h5 : Cond.codeWith y bs mL (some .int) hh ∈ TB)
    (hd : y.cls ≠ "java/lang/invoke/MethodHandle" ∧ y.cls ≠ "java/lang/invoke/VarHandle" ∧ (parseMethodDescriptor y.desc).map (fun d => d.parameters.length) = some n) (hn : as.length = n) (hst : st = as.reverse) (hmL : mL ≤ 5) (hdg : decode cLaw_law pc = .ok (.invokestatic idx, 3))
    (hJ : HD l D cF cI cJ cD y (.codeWith y bs mL (some .int) hh) as WC od g k v P) (hP : va_P D vwCl (TW cJ cD o od f g WC WM) H) (hD : va_D (LA s) (TW cJ cD o od f g WC WM)) (hS : va_S (LA s) s.heap H locs) (hlz : ls.size = 9) (hc1 : cells + 1 ≤ R.cells) (hs1 : slots + 6 ≤ R.slots)
    (kk : ∀ (g1 : Nat → UInt64) (W1 : va_W) (H1 : Heap) (locs1 : List Loc), P W1 → (k = 0 → g1 0 = v) → va_P D vwCl (TW cJ cD o od f g1 W1 WM) H1 → va_D (LA s) (TW cJ cD o od f g1 W1 WM) → va_S (LA s) s.heap H1 locs1 → W p l e R s m #[Value.ref b0] below meth c H1 locs1 (cells + 1) (slots + 6) Q (F0 m (pc + 3) ls [.int k])) :
    W p l e R s m #[Value.ref b0] below meth c H locs cells slots Q (F0 m pc ls st) := by
  obtain ⟨hx, hb, hml, hown, ht, hX, hbl, hlk, hK, hmb, hmx, hZ, hl0, hR1, hR2, hL⟩ := C
  obtain ⟨S, w, fr, mc, ms, lo, hfr, hmc, hms, hlo, hw, hM⟩ := hJ
  have hP2 := wP_perm (pm_D _ _ WC WM) hP
  have hD2 := wD_perm (pm_D _ _ WC WM) hD
  have hF := freeA hD2 hS hA_law
  refine qa_i hP2 hD2 hS hA_law (vx_runSW (rest := []) ⟨hx, hb, hml, hown, ht⟩ (hM H.size) (vx_cwSW n ht (g_SW h1 h2 (by rw [hy]; exact kI_Law) h5) rfl rfl rfl hd ⟨Nat.le_trans (show fr + 1 ≤ 10 by omega) hR1, Nat.le_trans (show 8 + (mL + 11) + lo ≤ 344 by omega) hR2⟩) (hPre_S hK hmb hmx hZ hS hF (wP_right hP2) (wD_right hD2)) rfl hn hlz (by rw [List.append_nil]; exact hst) (lv_room (Nat.le_of_ble_eq_true rfl)) hdg ⟨Nat.le_trans (by omega) hc1, Nat.le_trans (by omega) hs1⟩) (fun r u H1 locs1 hr hP1 hD1 hS1 => ?_)
  subst hr
  obtain ⟨g1, W1, hPW, hv, e9⟩ := hw u
  rw [e9] at hP1 hD1
  exact W.widen (k := cells + 1) (n := slots + 6) (by omega) (by omega) (kk g1 W1 H1 locs1 hPW hv (wP_perm (pm_D _ _ W1 WM).symm hP1) (wD_perm (pm_D _ _ W1 WM).symm hD1) hS1)
theorem lcM {y : MethodName} {idx mL n : Nat} {bs : ByteArray} {rt : Option FieldType} {as st rest fs : List Value} {v : Int32} {P : va_W → Prop} (C : LX p l R s m meth c D cF cI cJ cD b0 L xs) (h1 : Cond.methodLink RLaw idx y ∈ TB) (h2 : Cond.instanceMethod y ∈ TB) (h3 : Cond.selects RMod y y ∈ TB) (h5 : Cond.code y bs mL rt ∈ TB)
    (hd : y.cls = RMod ∧ y.cls ≠ "java/lang/invoke/MethodHandle" ∧ y.cls ≠ "java/lang/invoke/VarHandle" ∧ (parseMethodDescriptor y.desc).map (fun d => d.parameters.length) = some n) (hn : as.length = n) (hst : st = as.reverse ++ .ref hm :: rest) (hrm : (rest.map fun v => v.category).sum ≤ 8) (hmL : mL ≤ 6) (hdg : decode cLaw_law pc = .ok (.invokevirtual idx, 3))
    (he : WM[0]? = some (hm, .inr (6, fs))) (hJ : CI l D cF cI y (.code y bs mL rt) (.ref hm :: as) WM v P) (hP : va_P D vwCl (TW cJ cD o od f g WC WM) H) (hD : va_D (LA s) (TW cJ cD o od f g WC WM)) (hS : va_S (LA s) s.heap H locs) (hlz : ls.size = 9) (hc1 : cells ≤ R.cells) (hs1 : slots ≤ R.slots)
    (kk : ∀ (W1 : va_W) (H1 : Heap) (locs1 : List Loc), P W1 → va_P D vwCl (TW cJ cD o od f g WC W1) H1 → va_D (LA s) (TW cJ cD o od f g WC W1) → va_S (LA s) s.heap H1 locs1 → W p l e R s m #[Value.ref b0] below meth c H1 locs1 cells slots Q (F0 m (pc + 3) ls (.int v :: rest))) :
    W p l e R s m #[Value.ref b0] below meth c H locs cells slots Q (F0 m pc ls st) := by
  obtain ⟨hx, hb, hml, hown, ht, hX, hbl, hlk, hK, hmb, hmx, hZ, hl0, hR1, hR2, hL⟩ := C
  obtain ⟨S, w, fr, lo, hfr, hlo, hw, hM⟩ := hJ
  have hP2 : va_P D vwCl (((o, .inl (cJ, 1, .inr (.inl f))) :: (od, .inl (cD, 1, .inr (.inr (.inr (.inl g))))) :: WC) ++ WM) H := hP
  have hD2 : va_D (LA s) (((o, .inl (cJ, 1, .inr (.inl f))) :: (od, .inl (cD, 1, .inr (.inr (.inr (.inl g))))) :: WC) ++ WM) := hD
  refine qa_i hP2 hD2 hS hA_law (va_runV (As := as) (rest := rest) ⟨hx, hb, hml, hown, ht⟩ (hM H.size) (cwV n ht (g_V h1 h2 h3 kI_Mod h5) rfl rfl rfl hd ⟨Nat.le_trans (show fr + 1 ≤ 10 by omega) hR1, Nat.le_trans (show 8 + (mL + 11) + lo ≤ 344 by omega) hR2⟩) (cPre_V (ci := 6) (q0 := 0) (hK.sub [0, 1] rfl) hmb (wP_right hP2) (wD_right hD2) rfl he) rfl hn hlz hst (lv_room hrm) hdg ⟨hc1, hs1⟩) (fun r u H1 locs1 hr hP1 hD1 hS1 => ?_)
  subst hr
  exact kk (w u) H1 locs1 (hw u) hP1 hD1 hS1
theorem lcN {y : MethodName} {idx mL n : Nat} {bs : ByteArray} {rt : Option FieldType} {as st rest fs : List Value} {v : UInt64} {P : va_W → Prop} (C : LX p l R s m meth c D cF cI cJ cD b0 L xs) (h1 : Cond.methodLink RLaw idx y ∈ TB) (h2 : Cond.instanceMethod y ∈ TB) (h3 : Cond.selects RMod y y ∈ TB) (h5 : Cond.code y bs mL rt ∈ TB)
    (hd : y.cls = RMod ∧ y.cls ≠ "java/lang/invoke/MethodHandle" ∧ y.cls ≠ "java/lang/invoke/VarHandle" ∧ (parseMethodDescriptor y.desc).map (fun d => d.parameters.length) = some n) (hn : as.length = n) (hst : st = as.reverse ++ .ref hm :: rest) (hrm : (rest.map fun v => v.category).sum ≤ 8) (hmL : mL ≤ 6) (hdg : decode cLaw_law pc = .ok (.invokevirtual idx, 3))
    (he : WM[0]? = some (hm, .inr (6, fs))) (hJ : CD l D cF cI y (.code y bs mL rt) (.ref hm :: as) WM v P) (hP : va_P D vwCl (TW cJ cD o od f g WC WM) H) (hD : va_D (LA s) (TW cJ cD o od f g WC WM)) (hS : va_S (LA s) s.heap H locs) (hlz : ls.size = 9) (hc1 : cells ≤ R.cells) (hs1 : slots ≤ R.slots)
    (kk : ∀ (W1 : va_W) (H1 : Heap) (locs1 : List Loc), P W1 → va_P D vwCl (TW cJ cD o od f g WC W1) H1 → va_D (LA s) (TW cJ cD o od f g WC W1) → va_S (LA s) s.heap H1 locs1 → W p l e R s m #[Value.ref b0] below meth c H1 locs1 cells slots Q (F0 m (pc + 3) ls (.double v :: rest))) :
    W p l e R s m #[Value.ref b0] below meth c H locs cells slots Q (F0 m pc ls st) := by
  obtain ⟨hx, hb, hml, hown, ht, hX, hbl, hlk, hK, hmb, hmx, hZ, hl0, hR1, hR2, hL⟩ := C
  obtain ⟨S, w, fr, lo, hfr, hlo, hw, hM⟩ := hJ
  have hP2 : va_P D vwCl (((o, .inl (cJ, 1, .inr (.inl f))) :: (od, .inl (cD, 1, .inr (.inr (.inr (.inl g))))) :: WC) ++ WM) H := hP
  have hD2 : va_D (LA s) (((o, .inl (cJ, 1, .inr (.inl f))) :: (od, .inl (cD, 1, .inr (.inr (.inr (.inl g))))) :: WC) ++ WM) := hD
  refine qa_d hP2 hD2 hS hA_law (va_runV (As := as) (rest := rest) ⟨hx, hb, hml, hown, ht⟩ (hM H.size) (cwV n ht (g_V h1 h2 h3 kI_Mod h5) rfl rfl rfl hd ⟨Nat.le_trans (show fr + 1 ≤ 10 by omega) hR1, Nat.le_trans (show 8 + (mL + 11) + lo ≤ 344 by omega) hR2⟩) (cPre_V (ci := 6) (q0 := 0) (hK.sub [0, 1] rfl) hmb (wP_right hP2) (wD_right hD2) rfl he) rfl hn hlz hst (lv_room hrm) hdg ⟨hc1, hs1⟩) (fun r u H1 locs1 hr hP1 hD1 hS1 => ?_)
  subst hr
  exact kk (w u) H1 locs1 (hw u) hP1 hD1 hS1
theorem lcC {y : MethodName} {idx mL n : Nat} {bs : ByteArray} {rt : Option FieldType} {as st rest fs : List Value} {v : Int32} {P : va_W → Prop} (C : LX p l R s m meth c D cF cI cJ cD b0 L xs) (h1 : Cond.methodLink RLaw idx y ∈ TB) (h2 : Cond.instanceMethod y ∈ TB) (h3 : Cond.selects RVF y y ∈ TB) (h5 : Cond.code y bs mL rt ∈ TB)
    (hd : y.cls = RVF ∧ y.cls ≠ "java/lang/invoke/MethodHandle" ∧ y.cls ≠ "java/lang/invoke/VarHandle" ∧ (parseMethodDescriptor y.desc).map (fun d => d.parameters.length) = some n) (hn : as.length = n) (hst : st = as.reverse ++ .ref hx :: rest) (hrm : (rest.map fun v => v.category).sum ≤ 8) (hmL : mL ≤ 6) (hdg : decode cLaw_law pc = .ok (.invokevirtual idx, 3))
    (he : WC[0]? = some (hx, .inr (5, fs))) (hJ : CI l D cF cI y (.code y bs mL rt) (.ref hx :: as) WC v P) (hP : va_P D vwCl (TW cJ cD o od f g WC WM) H) (hD : va_D (LA s) (TW cJ cD o od f g WC WM)) (hS : va_S (LA s) s.heap H locs) (hlz : ls.size = 9) (hc1 : cells ≤ R.cells) (hs1 : slots ≤ R.slots)
    (kk : ∀ (W1 : va_W) (H1 : Heap) (locs1 : List Loc), P W1 → va_P D vwCl (TW cJ cD o od f g W1 WM) H1 → va_D (LA s) (TW cJ cD o od f g W1 WM) → va_S (LA s) s.heap H1 locs1 → W p l e R s m #[Value.ref b0] below meth c H1 locs1 cells slots Q (F0 m (pc + 3) ls (.int v :: rest))) :
    W p l e R s m #[Value.ref b0] below meth c H locs cells slots Q (F0 m pc ls st) := by
  obtain ⟨hx9, hb, hml, hown, ht, hX, hbl, hlk, hK, hmb, hmx, hZ, hl0, hR1, hR2, hL⟩ := C
  obtain ⟨S, w, fr, lo, hfr, hlo, hw, hM⟩ := hJ
  have hP2 := wP_perm (pm_C _ _ WC WM) hP
  have hD2 := wD_perm (pm_C _ _ WC WM) hD
  refine qa_i hP2 hD2 hS hA_law (va_runV (As := as) (rest := rest) ⟨hx9, hb, hml, hown, ht⟩ (hM H.size) (cwV n ht (g_V h1 h2 h3 kI_VF h5) rfl rfl rfl hd ⟨Nat.le_trans (show fr + 1 ≤ 10 by omega) hR1, Nat.le_trans (show 8 + (mL + 11) + lo ≤ 344 by omega) hR2⟩) (cPre_V (ci := 5) (q0 := 0) (hK.sub [0, 1] rfl) hmb (wP_right hP2) (wD_right hD2) rfl he) rfl hn hlz hst (lv_room hrm) hdg ⟨hc1, hs1⟩) (fun r u H1 locs1 hr hP1 hD1 hS1 => ?_)
  subst hr
  exact kk (w u) H1 locs1 (hw u) (wP_perm (pm_C _ _ (w u) WM).symm hP1) (wD_perm (pm_C _ _ (w u) WM).symm hD1) hS1
/-- an int of the script -/
theorem lsx {j : Nat} {rest : List Value} (C : LX p l R s m meth c D cF cI cJ cD b0 L xs) (hS : va_S (LA s) s.heap H locs) (hj : j < L) (hdg : decode cLaw_law pc = .ok (.iaload, 1)) (kk : W p l e R s m #[Value.ref b0] below meth c H locs cells slots Q (F0 m (pc + 1) ls (.int (xs j) :: rest))) :
    W p l e R s m #[Value.ref b0] below meth c H locs cells slots Q (F0 m pc ls (.int (nI j) :: .ref b0 :: rest)) := by
  obtain ⟨hx, hb, hml, hown, ht, hX, hbl, hlk, hK, hmb, hmx, hZ, hl0, hR1, hR2, hL⟩ := C
  refine va_sld hx hb hX hbl (fun q => Nat.lt_irrefl _ (Nat.lt_of_lt_of_le hbl q)) hS (vp_in_nI hj (by omega)) hdg ?_
  rw [nI_clamp (by omega)]
  exact kk
theorem k_lald {x : Int64} {rest : List Value} (C : LX p l R s m meth c D cF cI cJ cD b0 L xs) (hP : va_P D vwCl (TW cJ cD o od f g WC WM) H) (hv : f 0 = x) (hdg : decode cLaw_law pc = .ok (.laload, 1)) (kk : W p l e R s m #[Value.ref b0] below meth c H locs cells slots Q (F0 m (pc + 1) ls (.long x :: rest))) :
    W p l e R s m #[Value.ref b0] below meth c H locs cells slots Q (F0 m pc ls (.int 0 :: .ref o :: rest)) := by
  obtain ⟨hx, hb, hml, hown, ht, hX, hbl, hlk, hK, hmb, hmx, hZ, hl0, hR1, hR2, hL⟩ := C
  subst hv
  exact va_lald hx hb hK hP 0 2 rfl rfl (by unfold vp_in; decide) hdg kk
theorem k_dald {x : UInt64} {rest : List Value} (C : LX p l R s m meth c D cF cI cJ cD b0 L xs) (hP : va_P D vwCl (TW cJ cD o od f g WC WM) H) (hv : g 0 = x) (hdg : decode cLaw_law pc = .ok (.daload, 1)) (kk : W p l e R s m #[Value.ref b0] below meth c H locs cells slots Q (F0 m (pc + 1) ls (.double x :: rest))) :
    W p l e R s m #[Value.ref b0] below meth c H locs cells slots Q (F0 m pc ls (.int 0 :: .ref od :: rest)) := by
  obtain ⟨hx, hb, hml, hown, ht, hX, hbl, hlk, hK, hmb, hmx, hZ, hl0, hR1, hR2, hL⟩ := C
  subst hv
  exact va_dald hx hb hK hP 1 3 rfl rfl (by unfold vp_in; decide) hdg kk
set_option maxRecDepth 100000 in
set_option maxHeartbeats 1000000 in
theorem lw_sample (C : LX p l R s m meth c D cF cI cJ cD b0 L xs) (hi : i + 3 ≤ L) (hc1 : cells + 1 ≤ R.cells) (hs1 : slots + 6 ≤ R.slots) (hR : RS cF cI hx hm th WC WM) (hP : va_P D vwCl (TW cJ cD o od f g WC WM) H) (hD : va_D (LA s) (TW cJ cD o od f g WC WM)) (hS : va_S (LA s) s.heap H locs) (hl : lv_has ls 9 [(0, .ref b0), (1, .ref hx), (2, .ref hm), (3, .ref o), (4, .ref od), (5, .int (nI i))]) (next : NX p l e R s m below meth c D cF cI cJ cD b0 o od hx hm (cells + 1) (slots + 6) Q i 778) :
    W p l e R s m #[Value.ref b0] below meth c H locs cells slots Q (F0 m 108 ls []) := by
  obtain ⟨hx9, hb9, hml9, hown9, ht9, -, -, -, -, -, -, -, hl0, -, -, hL9⟩ := id C
  obtain ⟨⟨fs1, he1⟩, ⟨fs2, he2⟩⟩ := rs_0 (l := l) (D := D) (cJ := cJ) (cD := cD) hR
  obtain ⟨k, v, b, W1, P2, hJ, hM, hRS, hkv⟩ := rs_sample (D := D) (cJ := cJ) (cD := cD) hl0 hR (FP.dmul (FP.i2d (xs (i + 1))) 4593671619917905920)
  refine lv_aload_n hx9 hb9 dLaw_law_108 rfl (lv_at hl 1 rfl) ?_
  refine lv_aload_n hx9 hb9 dLaw_law_109 rfl (lv_at hl 0 rfl) ?_
  refine lv_iload hx9 hb9 dLaw_law_110 (lv_at hl 5 rfl) ?_
  refine lv_iconst (v := 1) hx9 hb9 dLaw_law_112 (by decide) ?_
  refine k_iadd (v := nI (i + 1)) hx9 hb9 dLaw_law_113 (add_lit (k := 1) (by decide)) ?_
  refine lsx C hS (j := i + 1) (by omega) dLaw_law_114 ?_
  refine lv_i2d hx9 hb9 dLaw_law_115 ?_
  refine lv_ldc2d (v := 4593671619917905920) hx9 hb9 hown9 (ht9 _ kk_Law_57) dLaw_law_116 ?_
  refine lv_dmul hx9 hb9 dLaw_law_119 (d8_n _) ?_
  refine lv_aload_n hx9 hb9 dLaw_law_120 rfl (lv_at hl 3 rfl) ?_
  refine lcJ (as := [.ref hx, .double (FP.dmul (FP.i2d (xs (i + 1))) 4593671619917905920), .ref o]) C km_Law_59 ks_Law_sample rfl kc_Law_sample (n := 3) (by decide +kernel) rfl rfl (by decide) dLaw_law_121 (hJ _ _) hP hD hS hl.1 hc1 hs1 (fun f W9 H locs e9 hv hP1 hD1 hS => ?_)
  rcases e9 with rfl
  have hP := hP1
  have hD := hD1
  refine lv_istore (lv' := [(6, .int k), (0, .ref b0), (1, .ref hx), (2, .ref hm), (3, .ref o), (4, .ref od), (5, .int (nI i))]) hx9 hb9 dLaw_law_124 hl (by decide) rfl (fun ls hl => ?_)
  refine lv_aload_n hx9 hb9 dLaw_law_126 rfl (lv_at hl 3 rfl) ?_
  refine lv_aload_n hx9 hb9 dLaw_law_127 rfl (lv_at hl 1 rfl) ?_
  refine lv_iload hx9 hb9 dLaw_law_128 (lv_at hl 6 rfl) ?_
  refine lv_iconst (v := 1) hx9 hb9 dLaw_law_130 (by decide) ?_
  refine k_iadd (v := nI (i + 1)) hx9 hb9 dLaw_law_131 (add_lit (k := 1) (by decide)) ?_
  refine lsx C hS (j := i + 1) (by omega) dLaw_law_132 ?_
  refine lv_i2d hx9 hb9 dLaw_law_133 ?_
  refine lv_ldc2d (v := 4593671619917905920) hx9 hb9 hown9 (ht9 _ kk_Law_57) dLaw_law_134 ?_
  refine lv_dmul hx9 hb9 dLaw_law_137 (d8_n _) ?_
  refine lcM (as := [.double (FP.dmul (FP.i2d (xs (i + 1))) 4593671619917905920)]) C km_Law_64 ki_Mod_sample kv_Mod_sample kc_Mod_sample (n := 1) (rest := []) (by decide +kernel) rfl rfl (Nat.le_of_ble_eq_true rfl) (by decide) dLaw_law_138 he2 hM hP hD hS hl.1 hc1 hs1 (fun W9 H locs e9 hP2 hD2 hS => ?_)
  have hR1 := hRS _ e9
  have hP := hP2
  have hD := hD2
  obtain ⟨fs3, he3⟩ := (rs_0 (l := l) (D := D) (cJ := cJ) (cD := cD) hR1).2
  refine lv_istore (lv' := [(7, .int b), (6, .int k), (0, .ref b0), (1, .ref hx), (2, .ref hm), (3, .ref o), (4, .ref od), (5, .int (nI i))]) hx9 hb9 dLaw_law_141 hl (by decide) rfl (fun ls hl => ?_)
  refine lv_aload_n hx9 hb9 dLaw_law_143 rfl (lv_at hl 4 rfl) ?_
  refine lcM (as := []) C km_Law_65 ki_Mod_thrown kv_Mod_thrown kc_Mod_thrown (n := 0) (rest := []) (by decide +kernel) rfl rfl (Nat.le_of_ble_eq_true rfl) (by decide) dLaw_law_144 he3 (rs_thrown (cJ := cJ) (cD := cD) hR1) hP hD hS hl.1 hc1 hs1 (fun W9 H locs e9 hP3 hD3 hS => ?_)
  rcases e9 with rfl
  have hP := hP3
  have hD := hD3
  refine lv_iload hx9 hb9 dLaw_law_147 (lv_at hl 1 rfl) ?_
  refine lv_icmp_eq (tgt := 154) hx9 hb9 dLaw_law_149 (by decide) (fun _ => ?_) (fun q => absurd rfl q)
  refine lv_iload hx9 hb9 dLaw_law_154 (lv_at hl 1 rfl) ?_
  refine lv_if_ne (tgt := 171) hx9 hb9 dLaw_law_156 (by decide) (fun _ => ?_) (fun hk0 => ?_)
  · refine lv_goto (tgt := 778) hx9 hb9 dLaw_law_171 (by decide) ?_
    exact next _ _ _ _ _ _ _ _ hR1 hP hD hS (lv_sub hl [2, 3, 4, 5, 6, 7] rfl)
  · have hv0 : f 0 = b.toInt64 := by rw [hv hk0, hkv hk0]
    refine lv_aload_n hx9 hb9 dLaw_law_159 rfl (lv_at hl 5 rfl) ?_
    refine lv_iconst (v := 0) hx9 hb9 dLaw_law_160 (by decide) ?_
    refine k_lald C hP hv0 dLaw_law_161 ?_
    refine lv_iload hx9 hb9 dLaw_law_162 (lv_at hl 0 rfl) ?_
    refine lv_i2l hx9 hb9 dLaw_law_164 rfl ?_
    refine W.lcmp hx9 hb9 dLaw_law_165 ?_
    refine lv_if_eq (tgt := 171) hx9 hb9 dLaw_law_166 (by decide) (fun _ => ?_) (fun q => absurd (lgc _) q)
    refine lv_goto (tgt := 778) hx9 hb9 dLaw_law_171 (by decide) ?_
    exact next _ _ _ _ _ _ _ _ hR1 hP hD hS (lv_sub hl [2, 3, 4, 5, 6, 7] rfl)
set_option maxRecDepth 100000 in
set_option maxHeartbeats 1000000 in
theorem lw_linear (C : LX p l R s m meth c D cF cI cJ cD b0 L xs) (hi : i + 3 ≤ L) (hc1 : cells + 1 ≤ R.cells) (hs1 : slots + 6 ≤ R.slots) (hR : RS cF cI hx hm th WC WM) (hP : va_P D vwCl (TW cJ cD o od f g WC WM) H) (hD : va_D (LA s) (TW cJ cD o od f g WC WM)) (hS : va_S (LA s) s.heap H locs) (hl : lv_has ls 9 [(0, .ref b0), (1, .ref hx), (2, .ref hm), (3, .ref o), (4, .ref od), (5, .int (nI i))]) (next : NX p l e R s m below meth c D cF cI cJ cD b0 o od hx hm (cells + 1) (slots + 6) Q i 778) :
    W p l e R s m #[Value.ref b0] below meth c H locs cells slots Q (F0 m 174 ls []) := by
  obtain ⟨hx9, hb9, hml9, hown9, ht9, -, -, -, -, -, -, -, hl0, -, -, hL9⟩ := id C
  obtain ⟨⟨fs1, he1⟩, ⟨fs2, he2⟩⟩ := rs_0 (l := l) (D := D) (cJ := cJ) (cD := cD) hR
  have hc0 : cells ≤ R.cells := by omega
  have hs0 : slots ≤ R.slots := by omega
  by_cases hq : xs (i + 1) = 0
  · obtain ⟨r, W1, P2, hJ, hM, hRS⟩ := rs_linear (l := l) (D := D) (cJ := cJ) (cD := cD) hR 0 (by decide)
    refine lv_aload_n hx9 hb9 dLaw_law_174 rfl (lv_at hl 1 rfl) ?_
    refine lv_aload_n hx9 hb9 dLaw_law_175 rfl (lv_at hl 0 rfl) ?_
    refine lv_iload hx9 hb9 dLaw_law_176 (lv_at hl 5 rfl) ?_
    refine lv_iconst (v := 1) hx9 hb9 dLaw_law_178 (by decide) ?_
    refine k_iadd (v := nI (i + 1)) hx9 hb9 dLaw_law_179 (add_lit (k := 1) (by decide)) ?_
    refine lsx C hS (j := i + 1) (by omega) dLaw_law_180 ?_
    refine lv_if_eq (tgt := 188) hx9 hb9 dLaw_law_181 (by decide) (fun _ => ?_) (fun q => absurd hq q)
    refine lv_iconst (v := 0) hx9 hb9 dLaw_law_188 (by decide) ?_
    refine lcC (as := [.int 0]) C km_Law_68 ki_VF_linear kv_VF_linear kc_VF_linear (n := 1) (rest := []) (by decide +kernel) rfl rfl (Nat.le_of_ble_eq_true rfl) (by decide) dLaw_law_189 he1 hJ hP hD hS hl.1 hc0 hs0 (fun W9 H locs e9 hP4 hD4 hS => ?_)
    rcases e9 with rfl
    have hP := hP4
    have hD := hD4
    refine lv_aload_n hx9 hb9 dLaw_law_192 rfl (lv_at hl 2 rfl) ?_
    refine lv_aload_n hx9 hb9 dLaw_law_193 rfl (lv_at hl 0 rfl) ?_
    refine lv_iload hx9 hb9 dLaw_law_194 (lv_at hl 5 rfl) ?_
    refine lv_iconst (v := 1) hx9 hb9 dLaw_law_196 (by decide) ?_
    refine k_iadd (v := nI (i + 1)) hx9 hb9 dLaw_law_197 (add_lit (k := 1) (by decide)) ?_
    refine lsx C hS (j := i + 1) (by omega) dLaw_law_198 ?_
    refine lv_if_eq (tgt := 206) hx9 hb9 dLaw_law_199 (by decide) (fun _ => ?_) (fun q => absurd hq q)
    refine lv_iconst (v := 0) hx9 hb9 dLaw_law_206 (by decide) ?_
    refine lcM (as := [.int 0]) C km_Law_72 ki_Mod_linear kv_Mod_linear kc_Mod_linear (n := 1) (rest := [.int r]) (by decide +kernel) rfl rfl (Nat.le_of_ble_eq_true rfl) (by decide) dLaw_law_207 he2 hM hP hD hS hl.1 hc0 hs0 (fun W9 H locs e9 hP5 hD5 hS => ?_)
    have hR1 := hRS _ e9
    have hP := hP5
    have hD := hD5
    refine W.widen (k := cells + 1) (n := slots + 6) (by omega) (by omega) ?_
    refine lv_icmp_eq (tgt := 778) hx9 hb9 dLaw_law_210 (by decide) (fun _ => ?_) (fun q => absurd rfl q)
    exact next _ _ _ _ _ _ _ _ hR1 hP hD hS (lv_sub hl [0, 1, 2, 3, 4, 5] rfl)
  · obtain ⟨r, W1, P2, hJ, hM, hRS⟩ := rs_linear (l := l) (D := D) (cJ := cJ) (cD := cD) hR 1 (by decide)
    refine lv_aload_n hx9 hb9 dLaw_law_174 rfl (lv_at hl 1 rfl) ?_
    refine lv_aload_n hx9 hb9 dLaw_law_175 rfl (lv_at hl 0 rfl) ?_
    refine lv_iload hx9 hb9 dLaw_law_176 (lv_at hl 5 rfl) ?_
    refine lv_iconst (v := 1) hx9 hb9 dLaw_law_178 (by decide) ?_
    refine k_iadd (v := nI (i + 1)) hx9 hb9 dLaw_law_179 (add_lit (k := 1) (by decide)) ?_
    refine lsx C hS (j := i + 1) (by omega) dLaw_law_180 ?_
    refine lv_if_eq (tgt := 188) hx9 hb9 dLaw_law_181 (by decide) (fun q => absurd q hq) (fun _ => ?_)
    refine lv_iconst (v := 1) hx9 hb9 dLaw_law_184 (by decide) ?_
    refine lv_goto (tgt := 189) hx9 hb9 dLaw_law_185 (by decide) ?_
    refine lcC (as := [.int 1]) C km_Law_68 ki_VF_linear kv_VF_linear kc_VF_linear (n := 1) (rest := []) (by decide +kernel) rfl rfl (Nat.le_of_ble_eq_true rfl) (by decide) dLaw_law_189 he1 hJ hP hD hS hl.1 hc0 hs0 (fun W9 H locs e9 hP6 hD6 hS => ?_)
    rcases e9 with rfl
    have hP := hP6
    have hD := hD6
    refine lv_aload_n hx9 hb9 dLaw_law_192 rfl (lv_at hl 2 rfl) ?_
    refine lv_aload_n hx9 hb9 dLaw_law_193 rfl (lv_at hl 0 rfl) ?_
    refine lv_iload hx9 hb9 dLaw_law_194 (lv_at hl 5 rfl) ?_
    refine lv_iconst (v := 1) hx9 hb9 dLaw_law_196 (by decide) ?_
    refine k_iadd (v := nI (i + 1)) hx9 hb9 dLaw_law_197 (add_lit (k := 1) (by decide)) ?_
    refine lsx C hS (j := i + 1) (by omega) dLaw_law_198 ?_
    refine lv_if_eq (tgt := 206) hx9 hb9 dLaw_law_199 (by decide) (fun q => absurd q hq) (fun _ => ?_)
    refine lv_iconst (v := 1) hx9 hb9 dLaw_law_202 (by decide) ?_
    refine lv_goto (tgt := 207) hx9 hb9 dLaw_law_203 (by decide) ?_
    refine lcM (as := [.int 1]) C km_Law_72 ki_Mod_linear kv_Mod_linear kc_Mod_linear (n := 1) (rest := [.int r]) (by decide +kernel) rfl rfl (Nat.le_of_ble_eq_true rfl) (by decide) dLaw_law_207 he2 hM hP hD hS hl.1 hc0 hs0 (fun W9 H locs e9 hP7 hD7 hS => ?_)
    have hR1 := hRS _ e9
    have hP := hP7
    have hD := hD7
    refine W.widen (k := cells + 1) (n := slots + 6) (by omega) (by omega) ?_
    refine lv_icmp_eq (tgt := 778) hx9 hb9 dLaw_law_210 (by decide) (fun _ => ?_) (fun q => absurd rfl q)
    exact next _ _ _ _ _ _ _ _ hR1 hP hD hS (lv_sub hl [0, 1, 2, 3, 4, 5] rfl)
set_option maxRecDepth 100000 in
set_option maxHeartbeats 1000000 in
theorem lw_encode (C : LX p l R s m meth c D cF cI cJ cD b0 L xs) (hi : i + 3 ≤ L) (hc1 : cells + 1 ≤ R.cells) (hs1 : slots + 6 ≤ R.slots) (hR : RS cF cI hx hm th WC WM) (hP : va_P D vwCl (TW cJ cD o od f g WC WM) H) (hD : va_D (LA s) (TW cJ cD o od f g WC WM)) (hS : va_S (LA s) s.heap H locs) (hl : lv_has ls 9 [(0, .ref b0), (1, .ref hx), (2, .ref hm), (3, .ref o), (4, .ref od), (5, .int (nI i))]) (next : NX p l e R s m below meth c D cF cI cJ cD b0 o od hx hm (cells + 1) (slots + 6) Q i 778) :
    W p l e R s m #[Value.ref b0] below meth c H locs cells slots Q (F0 m 215 ls []) := by
  obtain ⟨hx9, hb9, hml9, hown9, ht9, -, -, -, -, -, -, -, hl0, -, -, hL9⟩ := id C
  obtain ⟨⟨fs1, he1⟩, ⟨fs2, he2⟩⟩ := rs_0 (l := l) (D := D) (cJ := cJ) (cD := cD) hR
  obtain ⟨k, v, b, W1, P2, hJ, hM, hRS, hkv⟩ := rs_encode (D := D) (cJ := cJ) (cD := cD) hl0 hR 
  refine lv_aload_n hx9 hb9 dLaw_law_215 rfl (lv_at hl 1 rfl) ?_
  refine lv_aload_n hx9 hb9 dLaw_law_216 rfl (lv_at hl 3 rfl) ?_
  refine lcJ (as := [.ref hx, .ref o]) C km_Law_73 ks_Law_encode rfl kc_Law_encode (n := 2) (by decide +kernel) rfl rfl (by decide) dLaw_law_217 (hJ _ _) hP hD hS hl.1 hc1 hs1 (fun f W9 H locs e9 hv hP8 hD8 hS => ?_)
  rcases e9 with rfl
  have hP := hP8
  have hD := hD8
  refine lv_istore (lv' := [(6, .int k), (0, .ref b0), (1, .ref hx), (2, .ref hm), (3, .ref o), (4, .ref od), (5, .int (nI i))]) hx9 hb9 dLaw_law_220 hl (by decide) rfl (fun ls hl => ?_)
  refine lv_aload_n hx9 hb9 dLaw_law_222 rfl (lv_at hl 3 rfl) ?_
  refine lcM (as := []) C km_Law_76 ki_Mod_encode kv_Mod_encode kc_Mod_encode (n := 0) (rest := []) (by decide +kernel) rfl rfl (Nat.le_of_ble_eq_true rfl) (by decide) dLaw_law_223 he2 hM hP hD hS hl.1 hc1 hs1 (fun W9 H locs e9 hP9 hD9 hS => ?_)
  have hR1 := hRS _ e9
  have hP := hP9
  have hD := hD9
  obtain ⟨fs3, he3⟩ := (rs_0 (l := l) (D := D) (cJ := cJ) (cD := cD) hR1).2
  refine lv_istore (lv' := [(7, .int b), (6, .int k), (0, .ref b0), (1, .ref hx), (2, .ref hm), (3, .ref o), (4, .ref od), (5, .int (nI i))]) hx9 hb9 dLaw_law_226 hl (by decide) rfl (fun ls hl => ?_)
  refine lv_aload_n hx9 hb9 dLaw_law_228 rfl (lv_at hl 4 rfl) ?_
  refine lcM (as := []) C km_Law_65 ki_Mod_thrown kv_Mod_thrown kc_Mod_thrown (n := 0) (rest := []) (by decide +kernel) rfl rfl (Nat.le_of_ble_eq_true rfl) (by decide) dLaw_law_229 he3 (rs_thrown (cJ := cJ) (cD := cD) hR1) hP hD hS hl.1 hc1 hs1 (fun W9 H locs e9 hP10 hD10 hS => ?_)
  rcases e9 with rfl
  have hP := hP10
  have hD := hD10
  refine lv_iload hx9 hb9 dLaw_law_232 (lv_at hl 1 rfl) ?_
  refine lv_icmp_eq (tgt := 239) hx9 hb9 dLaw_law_234 (by decide) (fun _ => ?_) (fun q => absurd rfl q)
  refine lv_iload hx9 hb9 dLaw_law_239 (lv_at hl 1 rfl) ?_
  refine lv_if_ne (tgt := 256) hx9 hb9 dLaw_law_241 (by decide) (fun _ => ?_) (fun hk0 => ?_)
  · refine lv_goto (tgt := 778) hx9 hb9 dLaw_law_256 (by decide) ?_
    exact next _ _ _ _ _ _ _ _ hR1 hP hD hS (lv_sub hl [2, 3, 4, 5, 6, 7] rfl)
  · have hv0 : f 0 = b.toInt64 := by rw [hv hk0, hkv hk0]
    refine lv_aload_n hx9 hb9 dLaw_law_244 rfl (lv_at hl 5 rfl) ?_
    refine lv_iconst (v := 0) hx9 hb9 dLaw_law_245 (by decide) ?_
    refine k_lald C hP hv0 dLaw_law_246 ?_
    refine lv_iload hx9 hb9 dLaw_law_247 (lv_at hl 0 rfl) ?_
    refine lv_i2l hx9 hb9 dLaw_law_249 rfl ?_
    refine W.lcmp hx9 hb9 dLaw_law_250 ?_
    refine lv_if_eq (tgt := 256) hx9 hb9 dLaw_law_251 (by decide) (fun _ => ?_) (fun q => absurd (lgc _) q)
    refine lv_goto (tgt := 778) hx9 hb9 dLaw_law_256 (by decide) ?_
    exact next _ _ _ _ _ _ _ _ hR1 hP hD hS (lv_sub hl [2, 3, 4, 5, 6, 7] rfl)
set_option maxRecDepth 100000 in
set_option maxHeartbeats 1000000 in
theorem lw_decode (C : LX p l R s m meth c D cF cI cJ cD b0 L xs) (hi : i + 3 ≤ L) (hc1 : cells + 1 ≤ R.cells) (hs1 : slots + 6 ≤ R.slots) (hR : RS cF cI hx hm th WC WM) (hP : va_P D vwCl (TW cJ cD o od f g WC WM) H) (hD : va_D (LA s) (TW cJ cD o od f g WC WM)) (hS : va_S (LA s) s.heap H locs) (hl : lv_has ls 9 [(0, .ref b0), (1, .ref hx), (2, .ref hm), (3, .ref o), (4, .ref od), (5, .int (nI i))]) (next : NX p l e R s m below meth c D cF cI cJ cD b0 o od hx hm (cells + 1) (slots + 6) Q i 778) :
    W p l e R s m #[Value.ref b0] below meth c H locs cells slots Q (F0 m 259 ls []) := by
  obtain ⟨hx9, hb9, hml9, hown9, ht9, -, -, -, -, -, -, -, hl0, -, -, hL9⟩ := id C
  obtain ⟨⟨fs1, he1⟩, ⟨fs2, he2⟩⟩ := rs_0 (l := l) (D := D) (cJ := cJ) (cD := cD) hR
  obtain ⟨k, v, b, W1, P2, hJ, hM, hRS, hkv⟩ := rs_decode (D := D) (cJ := cJ) (cD := cD) hl0 hR 
  refine lv_aload_n hx9 hb9 dLaw_law_259 rfl (lv_at hl 1 rfl) ?_
  refine lv_aload_n hx9 hb9 dLaw_law_260 rfl (lv_at hl 3 rfl) ?_
  refine lcJ (as := [.ref hx, .ref o]) C km_Law_77 ks_Law_decode rfl kc_Law_decode (n := 2) (by decide +kernel) rfl rfl (by decide) dLaw_law_261 (hJ _ _) hP hD hS hl.1 hc1 hs1 (fun f W9 H locs e9 hv hP11 hD11 hS => ?_)
  rcases e9 with rfl
  have hP := hP11
  have hD := hD11
  refine lv_istore (lv' := [(6, .int k), (0, .ref b0), (1, .ref hx), (2, .ref hm), (3, .ref o), (4, .ref od), (5, .int (nI i))]) hx9 hb9 dLaw_law_264 hl (by decide) rfl (fun ls hl => ?_)
  refine lv_aload_n hx9 hb9 dLaw_law_266 rfl (lv_at hl 3 rfl) ?_
  refine lcM (as := []) C km_Law_79 ki_Mod_decode kv_Mod_decode kc_Mod_decode (n := 0) (rest := []) (by decide +kernel) rfl rfl (Nat.le_of_ble_eq_true rfl) (by decide) dLaw_law_267 he2 hM hP hD hS hl.1 hc1 hs1 (fun W9 H locs e9 hP12 hD12 hS => ?_)
  have hR1 := hRS _ e9
  have hP := hP12
  have hD := hD12
  obtain ⟨fs3, he3⟩ := (rs_0 (l := l) (D := D) (cJ := cJ) (cD := cD) hR1).2
  refine lv_istore (lv' := [(7, .int b), (6, .int k), (0, .ref b0), (1, .ref hx), (2, .ref hm), (3, .ref o), (4, .ref od), (5, .int (nI i))]) hx9 hb9 dLaw_law_270 hl (by decide) rfl (fun ls hl => ?_)
  refine lv_aload_n hx9 hb9 dLaw_law_272 rfl (lv_at hl 4 rfl) ?_
  refine lcM (as := []) C km_Law_65 ki_Mod_thrown kv_Mod_thrown kc_Mod_thrown (n := 0) (rest := []) (by decide +kernel) rfl rfl (Nat.le_of_ble_eq_true rfl) (by decide) dLaw_law_273 he3 (rs_thrown (cJ := cJ) (cD := cD) hR1) hP hD hS hl.1 hc1 hs1 (fun W9 H locs e9 hP13 hD13 hS => ?_)
  rcases e9 with rfl
  have hP := hP13
  have hD := hD13
  refine lv_iload hx9 hb9 dLaw_law_276 (lv_at hl 1 rfl) ?_
  refine lv_icmp_eq (tgt := 283) hx9 hb9 dLaw_law_278 (by decide) (fun _ => ?_) (fun q => absurd rfl q)
  refine lv_iload hx9 hb9 dLaw_law_283 (lv_at hl 1 rfl) ?_
  refine lv_if_ne (tgt := 300) hx9 hb9 dLaw_law_285 (by decide) (fun _ => ?_) (fun hk0 => ?_)
  · refine lv_goto (tgt := 778) hx9 hb9 dLaw_law_300 (by decide) ?_
    exact next _ _ _ _ _ _ _ _ hR1 hP hD hS (lv_sub hl [2, 3, 4, 5, 6, 7] rfl)
  · have hv0 : f 0 = b.toInt64 := by rw [hv hk0, hkv hk0]
    refine lv_aload_n hx9 hb9 dLaw_law_288 rfl (lv_at hl 5 rfl) ?_
    refine lv_iconst (v := 0) hx9 hb9 dLaw_law_289 (by decide) ?_
    refine k_lald C hP hv0 dLaw_law_290 ?_
    refine lv_iload hx9 hb9 dLaw_law_291 (lv_at hl 0 rfl) ?_
    refine lv_i2l hx9 hb9 dLaw_law_293 rfl ?_
    refine W.lcmp hx9 hb9 dLaw_law_294 ?_
    refine lv_if_eq (tgt := 300) hx9 hb9 dLaw_law_295 (by decide) (fun _ => ?_) (fun q => absurd (lgc _) q)
    refine lv_goto (tgt := 778) hx9 hb9 dLaw_law_300 (by decide) ?_
    exact next _ _ _ _ _ _ _ _ hR1 hP hD hS (lv_sub hl [2, 3, 4, 5, 6, 7] rfl)
set_option maxRecDepth 100000 in
set_option maxHeartbeats 1000000 in
theorem lw_out (C : LX p l R s m meth c D cF cI cJ cD b0 L xs) (hi : i + 3 ≤ L) (hc1 : cells + 1 ≤ R.cells) (hs1 : slots + 6 ≤ R.slots) (hR : RS cF cI hx hm th WC WM) (hP : va_P D vwCl (TW cJ cD o od f g WC WM) H) (hD : va_D (LA s) (TW cJ cD o od f g WC WM)) (hS : va_S (LA s) s.heap H locs) (hl : lv_has ls 9 [(0, .ref b0), (1, .ref hx), (2, .ref hm), (3, .ref o), (4, .ref od), (5, .int (nI i))]) (next : NX p l e R s m below meth c D cF cI cJ cD b0 o od hx hm (cells + 1) (slots + 6) Q i 778) :
    W p l e R s m #[Value.ref b0] below meth c H locs cells slots Q (F0 m 303 ls []) := by
  obtain ⟨hx9, hb9, hml9, hown9, ht9, -, -, -, -, -, -, -, hl0, -, -, hL9⟩ := id C
  obtain ⟨⟨fs1, he1⟩, ⟨fs2, he2⟩⟩ := rs_0 (l := l) (D := D) (cJ := cJ) (cD := cD) hR
  by_cases hq : xs (i + 1) = 0
  · obtain ⟨k, v, b, W1, P2, hJ, hM, hRS, hkv⟩ := rs_out (D := D) (cJ := cJ) (cD := cD) hl0 hR 0 (xs (i + 2))
    refine lv_aload_n hx9 hb9 dLaw_law_303 rfl (lv_at hl 1 rfl) ?_
    refine lv_aload_n hx9 hb9 dLaw_law_304 rfl (lv_at hl 0 rfl) ?_
    refine lv_iload hx9 hb9 dLaw_law_305 (lv_at hl 5 rfl) ?_
    refine lv_iconst (v := 1) hx9 hb9 dLaw_law_307 (by decide) ?_
    refine k_iadd (v := nI (i + 1)) hx9 hb9 dLaw_law_308 (add_lit (k := 1) (by decide)) ?_
    refine lsx C hS (j := i + 1) (by omega) dLaw_law_309 ?_
    refine lv_if_eq (tgt := 317) hx9 hb9 dLaw_law_310 (by decide) (fun _ => ?_) (fun q => absurd hq q)
    refine lv_iconst (v := 0) hx9 hb9 dLaw_law_317 (by decide) ?_
    refine lv_aload_n hx9 hb9 dLaw_law_318 rfl (lv_at hl 0 rfl) ?_
    refine lv_iload hx9 hb9 dLaw_law_319 (lv_at hl 5 rfl) ?_
    refine lv_iconst (v := 2) hx9 hb9 dLaw_law_321 (by decide) ?_
    refine k_iadd (v := nI (i + 2)) hx9 hb9 dLaw_law_322 (add_lit (k := 2) (by decide)) ?_
    refine lsx C hS (j := i + 2) (by omega) dLaw_law_323 ?_
    refine lv_aload hx9 hb9 dLaw_law_324 (lv_at hl 4 rfl) ?_
    refine lcD (as := [.ref hx, .int 0, .int (xs (i + 2)), .ref od]) C km_Law_80 ks_Law_out rfl kc_Law_out (n := 4) (by decide +kernel) rfl rfl (by decide) dLaw_law_326 (hJ _ _) hP hD hS hl.1 hc1 hs1 (fun g W9 H locs e9 hv hP14 hD14 hS => ?_)
    rcases e9 with rfl
    have hP := hP14
    have hD := hD14
    refine lv_istore (lv' := [(6, .int k), (0, .ref b0), (1, .ref hx), (2, .ref hm), (3, .ref o), (4, .ref od), (5, .int (nI i))]) hx9 hb9 dLaw_law_329 hl (by decide) rfl (fun ls hl => ?_)
    refine lv_aload_n hx9 hb9 dLaw_law_331 rfl (lv_at hl 3 rfl) ?_
    refine lv_aload_n hx9 hb9 dLaw_law_332 rfl (lv_at hl 1 rfl) ?_
    refine lv_iload hx9 hb9 dLaw_law_333 (lv_at hl 6 rfl) ?_
    refine lv_iconst (v := 1) hx9 hb9 dLaw_law_335 (by decide) ?_
    refine k_iadd (v := nI (i + 1)) hx9 hb9 dLaw_law_336 (add_lit (k := 1) (by decide)) ?_
    refine lsx C hS (j := i + 1) (by omega) dLaw_law_337 ?_
    refine lv_if_eq (tgt := 345) hx9 hb9 dLaw_law_338 (by decide) (fun _ => ?_) (fun q => absurd hq q)
    refine lv_iconst (v := 0) hx9 hb9 dLaw_law_345 (by decide) ?_
    refine lv_aload_n hx9 hb9 dLaw_law_346 rfl (lv_at hl 1 rfl) ?_
    refine lv_iload hx9 hb9 dLaw_law_347 (lv_at hl 6 rfl) ?_
    refine lv_iconst (v := 2) hx9 hb9 dLaw_law_349 (by decide) ?_
    refine k_iadd (v := nI (i + 2)) hx9 hb9 dLaw_law_350 (add_lit (k := 2) (by decide)) ?_
    refine lsx C hS (j := i + 2) (by omega) dLaw_law_351 ?_
    refine lcN (as := [.int 0, .int (xs (i + 2))]) C km_Law_83 ki_Mod_out kv_Mod_out kc_Mod_out (n := 2) (rest := []) (by decide +kernel) rfl rfl (Nat.le_of_ble_eq_true rfl) (by decide) dLaw_law_352 he2 hM hP hD hS hl.1 hc1 hs1 (fun W9 H locs e9 hP15 hD15 hS => ?_)
    have hR1 := hRS _ e9
    have hP := hP15
    have hD := hD15
    obtain ⟨fs3, he3⟩ := (rs_0 (l := l) (D := D) (cJ := cJ) (cD := cD) hR1).2
    refine lv_dstore (lv' := [(7, .double b), (6, .int k), (0, .ref b0), (1, .ref hx), (2, .ref hm), (3, .ref o), (4, .ref od), (5, .int (nI i))]) hx9 hb9 dLaw_law_355 hl (by decide) rfl (fun ls hl => ?_)
    refine lv_aload_n hx9 hb9 dLaw_law_357 rfl (lv_at hl 4 rfl) ?_
    refine lcM (as := []) C km_Law_65 ki_Mod_thrown kv_Mod_thrown kc_Mod_thrown (n := 0) (rest := []) (by decide +kernel) rfl rfl (Nat.le_of_ble_eq_true rfl) (by decide) dLaw_law_358 he3 (rs_thrown (cJ := cJ) (cD := cD) hR1) hP hD hS hl.1 hc1 hs1 (fun W9 H locs e9 hP16 hD16 hS => ?_)
    rcases e9 with rfl
    have hP := hP16
    have hD := hD16
    refine lv_iload hx9 hb9 dLaw_law_361 (lv_at hl 1 rfl) ?_
    refine lv_icmp_eq (tgt := 368) hx9 hb9 dLaw_law_363 (by decide) (fun _ => ?_) (fun q => absurd rfl q)
    refine lv_iload hx9 hb9 dLaw_law_368 (lv_at hl 1 rfl) ?_
    refine lv_if_ne (tgt := 405) hx9 hb9 dLaw_law_370 (by decide) (fun _ => ?_) (fun hk0 => ?_)
    · refine lv_goto (tgt := 778) hx9 hb9 dLaw_law_405 (by decide) ?_
      exact next _ _ _ _ _ _ _ _ hR1 hP hD hS (lv_sub hl [2, 3, 4, 5, 6, 7] rfl)
    · have hv0 : g 0 = b := by rw [hv hk0, hkv hk0]
      refine lv_aload hx9 hb9 dLaw_law_373 (lv_at hl 6 rfl) ?_
      refine lv_iconst (v := 0) hx9 hb9 dLaw_law_375 (by decide) ?_
      refine k_dald C hP hv0 dLaw_law_376 ?_
      refine lv_dload hx9 hb9 dLaw_law_377 (lv_at hl 0 rfl) ?_
      refine lv_dcmp hx9 hb9 dLaw_law_379 ?_
      refine lv_if_eq (tgt := 405) hx9 hb9 dLaw_law_380 (by decide) (fun _ => ?_) (fun hd0 => ?_)
      · refine lv_goto (tgt := 778) hx9 hb9 dLaw_law_405 (by decide) ?_
        exact next _ _ _ _ _ _ _ _ hR1 hP hD hS (lv_sub hl [2, 3, 4, 5, 6, 7] rfl)
      · refine lv_aload hx9 hb9 dLaw_law_383 (lv_at hl 6 rfl) ?_
        refine lv_iconst (v := 0) hx9 hb9 dLaw_law_385 (by decide) ?_
        refine k_dald C hP hv0 dLaw_law_386 ?_
        refine lv_aload hx9 hb9 dLaw_law_387 (lv_at hl 6 rfl) ?_
        refine lv_iconst (v := 0) hx9 hb9 dLaw_law_389 (by decide) ?_
        refine k_dald C hP hv0 dLaw_law_390 ?_
        refine lv_dcmp hx9 hb9 dLaw_law_391 ?_
        refine lv_if_eq (tgt := 403) hx9 hb9 dLaw_law_392 (by decide) (fun q => absurd q hd0) (fun _ => ?_)
        refine lv_dload hx9 hb9 dLaw_law_395 (lv_at hl 0 rfl) ?_
        refine lv_dload hx9 hb9 dLaw_law_397 (lv_at hl 0 rfl) ?_
        refine lv_dcmp hx9 hb9 dLaw_law_399 ?_
        refine lv_if_ne (tgt := 405) hx9 hb9 dLaw_law_400 (by decide) (fun _ => ?_) (fun q => absurd q hd0)
        refine lv_goto (tgt := 778) hx9 hb9 dLaw_law_405 (by decide) ?_
        exact next _ _ _ _ _ _ _ _ hR1 hP hD hS (lv_sub hl [2, 3, 4, 5, 6, 7] rfl)
  · obtain ⟨k, v, b, W1, P2, hJ, hM, hRS, hkv⟩ := rs_out (D := D) (cJ := cJ) (cD := cD) hl0 hR 1 (xs (i + 2))
    refine lv_aload_n hx9 hb9 dLaw_law_303 rfl (lv_at hl 1 rfl) ?_
    refine lv_aload_n hx9 hb9 dLaw_law_304 rfl (lv_at hl 0 rfl) ?_
    refine lv_iload hx9 hb9 dLaw_law_305 (lv_at hl 5 rfl) ?_
    refine lv_iconst (v := 1) hx9 hb9 dLaw_law_307 (by decide) ?_
    refine k_iadd (v := nI (i + 1)) hx9 hb9 dLaw_law_308 (add_lit (k := 1) (by decide)) ?_
    refine lsx C hS (j := i + 1) (by omega) dLaw_law_309 ?_
    refine lv_if_eq (tgt := 317) hx9 hb9 dLaw_law_310 (by decide) (fun q => absurd q hq) (fun _ => ?_)
    refine lv_iconst (v := 1) hx9 hb9 dLaw_law_313 (by decide) ?_
    refine lv_goto (tgt := 318) hx9 hb9 dLaw_law_314 (by decide) ?_
    refine lv_aload_n hx9 hb9 dLaw_law_318 rfl (lv_at hl 0 rfl) ?_
    refine lv_iload hx9 hb9 dLaw_law_319 (lv_at hl 5 rfl) ?_
    refine lv_iconst (v := 2) hx9 hb9 dLaw_law_321 (by decide) ?_
    refine k_iadd (v := nI (i + 2)) hx9 hb9 dLaw_law_322 (add_lit (k := 2) (by decide)) ?_
    refine lsx C hS (j := i + 2) (by omega) dLaw_law_323 ?_
    refine lv_aload hx9 hb9 dLaw_law_324 (lv_at hl 4 rfl) ?_
    refine lcD (as := [.ref hx, .int 1, .int (xs (i + 2)), .ref od]) C km_Law_80 ks_Law_out rfl kc_Law_out (n := 4) (by decide +kernel) rfl rfl (by decide) dLaw_law_326 (hJ _ _) hP hD hS hl.1 hc1 hs1 (fun g W9 H locs e9 hv hP17 hD17 hS => ?_)
    rcases e9 with rfl
    have hP := hP17
    have hD := hD17
    refine lv_istore (lv' := [(6, .int k), (0, .ref b0), (1, .ref hx), (2, .ref hm), (3, .ref o), (4, .ref od), (5, .int (nI i))]) hx9 hb9 dLaw_law_329 hl (by decide) rfl (fun ls hl => ?_)
    refine lv_aload_n hx9 hb9 dLaw_law_331 rfl (lv_at hl 3 rfl) ?_
    refine lv_aload_n hx9 hb9 dLaw_law_332 rfl (lv_at hl 1 rfl) ?_
    refine lv_iload hx9 hb9 dLaw_law_333 (lv_at hl 6 rfl) ?_
    refine lv_iconst (v := 1) hx9 hb9 dLaw_law_335 (by decide) ?_
    refine k_iadd (v := nI (i + 1)) hx9 hb9 dLaw_law_336 (add_lit (k := 1) (by decide)) ?_
    refine lsx C hS (j := i + 1) (by omega) dLaw_law_337 ?_
    refine lv_if_eq (tgt := 345) hx9 hb9 dLaw_law_338 (by decide) (fun q => absurd q hq) (fun _ => ?_)
    refine lv_iconst (v := 1) hx9 hb9 dLaw_law_341 (by decide) ?_
    refine lv_goto (tgt := 346) hx9 hb9 dLaw_law_342 (by decide) ?_
    refine lv_aload_n hx9 hb9 dLaw_law_346 rfl (lv_at hl 1 rfl) ?_
    refine lv_iload hx9 hb9 dLaw_law_347 (lv_at hl 6 rfl) ?_
    refine lv_iconst (v := 2) hx9 hb9 dLaw_law_349 (by decide) ?_
    refine k_iadd (v := nI (i + 2)) hx9 hb9 dLaw_law_350 (add_lit (k := 2) (by decide)) ?_
    refine lsx C hS (j := i + 2) (by omega) dLaw_law_351 ?_
    refine lcN (as := [.int 1, .int (xs (i + 2))]) C km_Law_83 ki_Mod_out kv_Mod_out kc_Mod_out (n := 2) (rest := []) (by decide +kernel) rfl rfl (Nat.le_of_ble_eq_true rfl) (by decide) dLaw_law_352 he2 hM hP hD hS hl.1 hc1 hs1 (fun W9 H locs e9 hP18 hD18 hS => ?_)
    have hR1 := hRS _ e9
    have hP := hP18
    have hD := hD18
    obtain ⟨fs3, he3⟩ := (rs_0 (l := l) (D := D) (cJ := cJ) (cD := cD) hR1).2
    refine lv_dstore (lv' := [(7, .double b), (6, .int k), (0, .ref b0), (1, .ref hx), (2, .ref hm), (3, .ref o), (4, .ref od), (5, .int (nI i))]) hx9 hb9 dLaw_law_355 hl (by decide) rfl (fun ls hl => ?_)
    refine lv_aload_n hx9 hb9 dLaw_law_357 rfl (lv_at hl 4 rfl) ?_
    refine lcM (as := []) C km_Law_65 ki_Mod_thrown kv_Mod_thrown kc_Mod_thrown (n := 0) (rest := []) (by decide +kernel) rfl rfl (Nat.le_of_ble_eq_true rfl) (by decide) dLaw_law_358 he3 (rs_thrown (cJ := cJ) (cD := cD) hR1) hP hD hS hl.1 hc1 hs1 (fun W9 H locs e9 hP19 hD19 hS => ?_)
    rcases e9 with rfl
    have hP := hP19
    have hD := hD19
    refine lv_iload hx9 hb9 dLaw_law_361 (lv_at hl 1 rfl) ?_
    refine lv_icmp_eq (tgt := 368) hx9 hb9 dLaw_law_363 (by decide) (fun _ => ?_) (fun q => absurd rfl q)
    refine lv_iload hx9 hb9 dLaw_law_368 (lv_at hl 1 rfl) ?_
    refine lv_if_ne (tgt := 405) hx9 hb9 dLaw_law_370 (by decide) (fun _ => ?_) (fun hk0 => ?_)
    · refine lv_goto (tgt := 778) hx9 hb9 dLaw_law_405 (by decide) ?_
      exact next _ _ _ _ _ _ _ _ hR1 hP hD hS (lv_sub hl [2, 3, 4, 5, 6, 7] rfl)
    · have hv0 : g 0 = b := by rw [hv hk0, hkv hk0]
      refine lv_aload hx9 hb9 dLaw_law_373 (lv_at hl 6 rfl) ?_
      refine lv_iconst (v := 0) hx9 hb9 dLaw_law_375 (by decide) ?_
      refine k_dald C hP hv0 dLaw_law_376 ?_
      refine lv_dload hx9 hb9 dLaw_law_377 (lv_at hl 0 rfl) ?_
      refine lv_dcmp hx9 hb9 dLaw_law_379 ?_
      refine lv_if_eq (tgt := 405) hx9 hb9 dLaw_law_380 (by decide) (fun _ => ?_) (fun hd0 => ?_)
      · refine lv_goto (tgt := 778) hx9 hb9 dLaw_law_405 (by decide) ?_
        exact next _ _ _ _ _ _ _ _ hR1 hP hD hS (lv_sub hl [2, 3, 4, 5, 6, 7] rfl)
      · refine lv_aload hx9 hb9 dLaw_law_383 (lv_at hl 6 rfl) ?_
        refine lv_iconst (v := 0) hx9 hb9 dLaw_law_385 (by decide) ?_
        refine k_dald C hP hv0 dLaw_law_386 ?_
        refine lv_aload hx9 hb9 dLaw_law_387 (lv_at hl 6 rfl) ?_
        refine lv_iconst (v := 0) hx9 hb9 dLaw_law_389 (by decide) ?_
        refine k_dald C hP hv0 dLaw_law_390 ?_
        refine lv_dcmp hx9 hb9 dLaw_law_391 ?_
        refine lv_if_eq (tgt := 403) hx9 hb9 dLaw_law_392 (by decide) (fun q => absurd q hd0) (fun _ => ?_)
        refine lv_dload hx9 hb9 dLaw_law_395 (lv_at hl 0 rfl) ?_
        refine lv_dload hx9 hb9 dLaw_law_397 (lv_at hl 0 rfl) ?_
        refine lv_dcmp hx9 hb9 dLaw_law_399 ?_
        refine lv_if_ne (tgt := 405) hx9 hb9 dLaw_law_400 (by decide) (fun _ => ?_) (fun q => absurd q hd0)
        refine lv_goto (tgt := 778) hx9 hb9 dLaw_law_405 (by decide) ?_
        exact next _ _ _ _ _ _ _ _ hR1 hP hD hS (lv_sub hl [2, 3, 4, 5, 6, 7] rfl)
set_option maxRecDepth 100000 in
set_option maxHeartbeats 1000000 in
theorem lw_code (C : LX p l R s m meth c D cF cI cJ cD b0 L xs) (hi : i + 3 ≤ L) (hc1 : cells + 1 ≤ R.cells) (hs1 : slots + 6 ≤ R.slots) (hR : RS cF cI hx hm th WC WM) (hP : va_P D vwCl (TW cJ cD o od f g WC WM) H) (hD : va_D (LA s) (TW cJ cD o od f g WC WM)) (hS : va_S (LA s) s.heap H locs) (hl : lv_has ls 9 [(0, .ref b0), (1, .ref hx), (2, .ref hm), (3, .ref o), (4, .ref od), (5, .int (nI i))]) (next : NX p l e R s m below meth c D cF cI cJ cD b0 o od hx hm (cells + 1) (slots + 6) Q i 778) :
    W p l e R s m #[Value.ref b0] below meth c H locs cells slots Q (F0 m 408 ls []) := by
  obtain ⟨hx9, hb9, hml9, hown9, ht9, -, -, -, -, -, -, -, hl0, -, -, hL9⟩ := id C
  obtain ⟨⟨fs1, he1⟩, ⟨fs2, he2⟩⟩ := rs_0 (l := l) (D := D) (cJ := cJ) (cD := cD) hR
  obtain ⟨k, v, b, W1, P2, hJ, hM, hRS, hkv⟩ := rs_code (D := D) (cJ := cJ) (cD := cD) hl0 hR (xs (i + 1))
  refine lv_aload_n hx9 hb9 dLaw_law_408 rfl (lv_at hl 1 rfl) ?_
  refine lv_aload_n hx9 hb9 dLaw_law_409 rfl (lv_at hl 0 rfl) ?_
  refine lv_iload hx9 hb9 dLaw_law_410 (lv_at hl 5 rfl) ?_
  refine lv_iconst (v := 1) hx9 hb9 dLaw_law_412 (by decide) ?_
  refine k_iadd (v := nI (i + 1)) hx9 hb9 dLaw_law_413 (add_lit (k := 1) (by decide)) ?_
  refine lsx C hS (j := i + 1) (by omega) dLaw_law_414 ?_
  refine lv_aload_n hx9 hb9 dLaw_law_415 rfl (lv_at hl 3 rfl) ?_
  refine lcJ (as := [.ref hx, .int (xs (i + 1)), .ref o]) C km_Law_84 ks_Law_code rfl kc_Law_code (n := 3) (by decide +kernel) rfl rfl (by decide) dLaw_law_416 (hJ _ _) hP hD hS hl.1 hc1 hs1 (fun f W9 H locs e9 hv hP20 hD20 hS => ?_)
  rcases e9 with rfl
  have hP := hP20
  have hD := hD20
  refine lv_istore (lv' := [(6, .int k), (0, .ref b0), (1, .ref hx), (2, .ref hm), (3, .ref o), (4, .ref od), (5, .int (nI i))]) hx9 hb9 dLaw_law_419 hl (by decide) rfl (fun ls hl => ?_)
  refine lv_aload_n hx9 hb9 dLaw_law_421 rfl (lv_at hl 3 rfl) ?_
  refine lv_aload_n hx9 hb9 dLaw_law_422 rfl (lv_at hl 1 rfl) ?_
  refine lv_iload hx9 hb9 dLaw_law_423 (lv_at hl 6 rfl) ?_
  refine lv_iconst (v := 1) hx9 hb9 dLaw_law_425 (by decide) ?_
  refine k_iadd (v := nI (i + 1)) hx9 hb9 dLaw_law_426 (add_lit (k := 1) (by decide)) ?_
  refine lsx C hS (j := i + 1) (by omega) dLaw_law_427 ?_
  refine lcM (as := [.int (xs (i + 1))]) C km_Law_87 ki_Mod_code kv_Mod_code kc_Mod_code (n := 1) (rest := []) (by decide +kernel) rfl rfl (Nat.le_of_ble_eq_true rfl) (by decide) dLaw_law_428 he2 hM hP hD hS hl.1 hc1 hs1 (fun W9 H locs e9 hP21 hD21 hS => ?_)
  have hR1 := hRS _ e9
  have hP := hP21
  have hD := hD21
  obtain ⟨fs3, he3⟩ := (rs_0 (l := l) (D := D) (cJ := cJ) (cD := cD) hR1).2
  refine lv_istore (lv' := [(7, .int b), (6, .int k), (0, .ref b0), (1, .ref hx), (2, .ref hm), (3, .ref o), (4, .ref od), (5, .int (nI i))]) hx9 hb9 dLaw_law_431 hl (by decide) rfl (fun ls hl => ?_)
  refine lv_aload_n hx9 hb9 dLaw_law_433 rfl (lv_at hl 4 rfl) ?_
  refine lcM (as := []) C km_Law_65 ki_Mod_thrown kv_Mod_thrown kc_Mod_thrown (n := 0) (rest := []) (by decide +kernel) rfl rfl (Nat.le_of_ble_eq_true rfl) (by decide) dLaw_law_434 he3 (rs_thrown (cJ := cJ) (cD := cD) hR1) hP hD hS hl.1 hc1 hs1 (fun W9 H locs e9 hP22 hD22 hS => ?_)
  rcases e9 with rfl
  have hP := hP22
  have hD := hD22
  refine lv_iload hx9 hb9 dLaw_law_437 (lv_at hl 1 rfl) ?_
  refine lv_icmp_eq (tgt := 444) hx9 hb9 dLaw_law_439 (by decide) (fun _ => ?_) (fun q => absurd rfl q)
  refine lv_iload hx9 hb9 dLaw_law_444 (lv_at hl 1 rfl) ?_
  refine lv_if_ne (tgt := 461) hx9 hb9 dLaw_law_446 (by decide) (fun _ => ?_) (fun hk0 => ?_)
  · refine lv_goto (tgt := 778) hx9 hb9 dLaw_law_461 (by decide) ?_
    exact next _ _ _ _ _ _ _ _ hR1 hP hD hS (lv_sub hl [2, 3, 4, 5, 6, 7] rfl)
  · have hv0 : f 0 = b.toInt64 := by rw [hv hk0, hkv hk0]
    refine lv_aload_n hx9 hb9 dLaw_law_449 rfl (lv_at hl 5 rfl) ?_
    refine lv_iconst (v := 0) hx9 hb9 dLaw_law_450 (by decide) ?_
    refine k_lald C hP hv0 dLaw_law_451 ?_
    refine lv_iload hx9 hb9 dLaw_law_452 (lv_at hl 0 rfl) ?_
    refine lv_i2l hx9 hb9 dLaw_law_454 rfl ?_
    refine W.lcmp hx9 hb9 dLaw_law_455 ?_
    refine lv_if_eq (tgt := 461) hx9 hb9 dLaw_law_456 (by decide) (fun _ => ?_) (fun q => absurd (lgc _) q)
    refine lv_goto (tgt := 778) hx9 hb9 dLaw_law_461 (by decide) ?_
    exact next _ _ _ _ _ _ _ _ hR1 hP hD hS (lv_sub hl [2, 3, 4, 5, 6, 7] rfl)
set_option maxRecDepth 100000 in
set_option maxHeartbeats 1000000 in
theorem lw_stream (C : LX p l R s m meth c D cF cI cJ cD b0 L xs) (hi : i + 3 ≤ L) (hc1 : cells + 1 ≤ R.cells) (hs1 : slots + 6 ≤ R.slots) (hR : RS cF cI hx hm th WC WM) (hP : va_P D vwCl (TW cJ cD o od f g WC WM) H) (hD : va_D (LA s) (TW cJ cD o od f g WC WM)) (hS : va_S (LA s) s.heap H locs) (hl : lv_has ls 9 [(0, .ref b0), (1, .ref hx), (2, .ref hm), (3, .ref o), (4, .ref od), (5, .int (nI i))]) (next : NX p l e R s m below meth c D cF cI cJ cD b0 o od hx hm (cells + 1) (slots + 6) Q i 778) :
    W p l e R s m #[Value.ref b0] below meth c H locs cells slots Q (F0 m 464 ls []) := by
  obtain ⟨hx9, hb9, hml9, hown9, ht9, -, -, -, -, -, -, -, hl0, -, -, hL9⟩ := id C
  obtain ⟨⟨fs1, he1⟩, ⟨fs2, he2⟩⟩ := rs_0 (l := l) (D := D) (cJ := cJ) (cD := cD) hR
  obtain ⟨k, v, b, W1, P2, hJ, hM, hRS, hkv⟩ := rs_stream (D := D) (cJ := cJ) (cD := cD) hl0 hR (xs (i + 1))
  refine lv_aload_n hx9 hb9 dLaw_law_464 rfl (lv_at hl 1 rfl) ?_
  refine lv_aload_n hx9 hb9 dLaw_law_465 rfl (lv_at hl 0 rfl) ?_
  refine lv_iload hx9 hb9 dLaw_law_466 (lv_at hl 5 rfl) ?_
  refine lv_iconst (v := 1) hx9 hb9 dLaw_law_468 (by decide) ?_
  refine k_iadd (v := nI (i + 1)) hx9 hb9 dLaw_law_469 (add_lit (k := 1) (by decide)) ?_
  refine lsx C hS (j := i + 1) (by omega) dLaw_law_470 ?_
  refine lv_aload_n hx9 hb9 dLaw_law_471 rfl (lv_at hl 3 rfl) ?_
  refine lcJ (as := [.ref hx, .int (xs (i + 1)), .ref o]) C km_Law_88 ks_Law_stream rfl kc_Law_stream (n := 3) (by decide +kernel) rfl rfl (by decide) dLaw_law_472 (hJ _ _) hP hD hS hl.1 hc1 hs1 (fun f W9 H locs e9 hv hP23 hD23 hS => ?_)
  rcases e9 with rfl
  have hP := hP23
  have hD := hD23
  refine lv_istore (lv' := [(6, .int k), (0, .ref b0), (1, .ref hx), (2, .ref hm), (3, .ref o), (4, .ref od), (5, .int (nI i))]) hx9 hb9 dLaw_law_475 hl (by decide) rfl (fun ls hl => ?_)
  refine lv_aload_n hx9 hb9 dLaw_law_477 rfl (lv_at hl 3 rfl) ?_
  refine lv_aload_n hx9 hb9 dLaw_law_478 rfl (lv_at hl 1 rfl) ?_
  refine lv_iload hx9 hb9 dLaw_law_479 (lv_at hl 6 rfl) ?_
  refine lv_iconst (v := 1) hx9 hb9 dLaw_law_481 (by decide) ?_
  refine k_iadd (v := nI (i + 1)) hx9 hb9 dLaw_law_482 (add_lit (k := 1) (by decide)) ?_
  refine lsx C hS (j := i + 1) (by omega) dLaw_law_483 ?_
  refine lcM (as := [.int (xs (i + 1))]) C km_Law_90 ki_Mod_stream kv_Mod_stream kc_Mod_stream (n := 1) (rest := []) (by decide +kernel) rfl rfl (Nat.le_of_ble_eq_true rfl) (by decide) dLaw_law_484 he2 hM hP hD hS hl.1 hc1 hs1 (fun W9 H locs e9 hP24 hD24 hS => ?_)
  have hR1 := hRS _ e9
  have hP := hP24
  have hD := hD24
  obtain ⟨fs3, he3⟩ := (rs_0 (l := l) (D := D) (cJ := cJ) (cD := cD) hR1).2
  refine lv_istore (lv' := [(7, .int b), (6, .int k), (0, .ref b0), (1, .ref hx), (2, .ref hm), (3, .ref o), (4, .ref od), (5, .int (nI i))]) hx9 hb9 dLaw_law_487 hl (by decide) rfl (fun ls hl => ?_)
  refine lv_aload_n hx9 hb9 dLaw_law_489 rfl (lv_at hl 4 rfl) ?_
  refine lcM (as := []) C km_Law_65 ki_Mod_thrown kv_Mod_thrown kc_Mod_thrown (n := 0) (rest := []) (by decide +kernel) rfl rfl (Nat.le_of_ble_eq_true rfl) (by decide) dLaw_law_490 he3 (rs_thrown (cJ := cJ) (cD := cD) hR1) hP hD hS hl.1 hc1 hs1 (fun W9 H locs e9 hP25 hD25 hS => ?_)
  rcases e9 with rfl
  have hP := hP25
  have hD := hD25
  refine lv_iload hx9 hb9 dLaw_law_493 (lv_at hl 1 rfl) ?_
  refine lv_icmp_eq (tgt := 500) hx9 hb9 dLaw_law_495 (by decide) (fun _ => ?_) (fun q => absurd rfl q)
  refine lv_iload hx9 hb9 dLaw_law_500 (lv_at hl 1 rfl) ?_
  refine lv_if_ne (tgt := 517) hx9 hb9 dLaw_law_502 (by decide) (fun _ => ?_) (fun hk0 => ?_)
  · refine lv_goto (tgt := 778) hx9 hb9 dLaw_law_517 (by decide) ?_
    exact next _ _ _ _ _ _ _ _ hR1 hP hD hS (lv_sub hl [2, 3, 4, 5, 6, 7] rfl)
  · have hv0 : f 0 = b.toInt64 := by rw [hv hk0, hkv hk0]
    refine lv_aload_n hx9 hb9 dLaw_law_505 rfl (lv_at hl 5 rfl) ?_
    refine lv_iconst (v := 0) hx9 hb9 dLaw_law_506 (by decide) ?_
    refine k_lald C hP hv0 dLaw_law_507 ?_
    refine lv_iload hx9 hb9 dLaw_law_508 (lv_at hl 0 rfl) ?_
    refine lv_i2l hx9 hb9 dLaw_law_510 rfl ?_
    refine W.lcmp hx9 hb9 dLaw_law_511 ?_
    refine lv_if_eq (tgt := 517) hx9 hb9 dLaw_law_512 (by decide) (fun _ => ?_) (fun q => absurd (lgc _) q)
    refine lv_goto (tgt := 778) hx9 hb9 dLaw_law_517 (by decide) ?_
    exact next _ _ _ _ _ _ _ _ hR1 hP hD hS (lv_sub hl [2, 3, 4, 5, 6, 7] rfl)
set_option maxRecDepth 100000 in
set_option maxHeartbeats 1000000 in
theorem lw_damage (C : LX p l R s m meth c D cF cI cJ cD b0 L xs) (hi : i + 3 ≤ L) (hc1 : cells + 1 ≤ R.cells) (hs1 : slots + 6 ≤ R.slots) (hR : RS cF cI hx hm th WC WM) (hP : va_P D vwCl (TW cJ cD o od f g WC WM) H) (hD : va_D (LA s) (TW cJ cD o od f g WC WM)) (hS : va_S (LA s) s.heap H locs) (hl : lv_has ls 9 [(0, .ref b0), (1, .ref hx), (2, .ref hm), (3, .ref o), (4, .ref od), (5, .int (nI i))]) (next : NX p l e R s m below meth c D cF cI cJ cD b0 o od hx hm (cells + 1) (slots + 6) Q i 778) :
    W p l e R s m #[Value.ref b0] below meth c H locs cells slots Q (F0 m 520 ls []) := by
  obtain ⟨hx9, hb9, hml9, hown9, ht9, -, -, -, -, -, -, -, hl0, -, -, hL9⟩ := id C
  obtain ⟨⟨fs1, he1⟩, ⟨fs2, he2⟩⟩ := rs_0 (l := l) (D := D) (cJ := cJ) (cD := cD) hR
  obtain ⟨k, v, b, W1, P2, hJ, hM, hRS, hkv⟩ := rs_damage (D := D) (cJ := cJ) (cD := cD) hl0 hR (xs (i + 1)) (xs (i + 2))
  refine lv_aload_n hx9 hb9 dLaw_law_520 rfl (lv_at hl 1 rfl) ?_
  refine lv_aload_n hx9 hb9 dLaw_law_521 rfl (lv_at hl 0 rfl) ?_
  refine lv_iload hx9 hb9 dLaw_law_522 (lv_at hl 5 rfl) ?_
  refine lv_iconst (v := 1) hx9 hb9 dLaw_law_524 (by decide) ?_
  refine k_iadd (v := nI (i + 1)) hx9 hb9 dLaw_law_525 (add_lit (k := 1) (by decide)) ?_
  refine lsx C hS (j := i + 1) (by omega) dLaw_law_526 ?_
  refine lv_aload_n hx9 hb9 dLaw_law_527 rfl (lv_at hl 0 rfl) ?_
  refine lv_iload hx9 hb9 dLaw_law_528 (lv_at hl 5 rfl) ?_
  refine lv_iconst (v := 2) hx9 hb9 dLaw_law_530 (by decide) ?_
  refine k_iadd (v := nI (i + 2)) hx9 hb9 dLaw_law_531 (add_lit (k := 2) (by decide)) ?_
  refine lsx C hS (j := i + 2) (by omega) dLaw_law_532 ?_
  refine lv_aload_n hx9 hb9 dLaw_law_533 rfl (lv_at hl 3 rfl) ?_
  refine lcJ (as := [.ref hx, .int (xs (i + 1)), .int (xs (i + 2)), .ref o]) C km_Law_91 ks_Law_damage rfl kc_Law_damage (n := 4) (by decide +kernel) rfl rfl (by decide) dLaw_law_534 (hJ _ _) hP hD hS hl.1 hc1 hs1 (fun f W9 H locs e9 hv hP26 hD26 hS => ?_)
  rcases e9 with rfl
  have hP := hP26
  have hD := hD26
  refine lv_istore (lv' := [(6, .int k), (0, .ref b0), (1, .ref hx), (2, .ref hm), (3, .ref o), (4, .ref od), (5, .int (nI i))]) hx9 hb9 dLaw_law_537 hl (by decide) rfl (fun ls hl => ?_)
  refine lv_aload_n hx9 hb9 dLaw_law_539 rfl (lv_at hl 3 rfl) ?_
  refine lv_aload_n hx9 hb9 dLaw_law_540 rfl (lv_at hl 1 rfl) ?_
  refine lv_iload hx9 hb9 dLaw_law_541 (lv_at hl 6 rfl) ?_
  refine lv_iconst (v := 1) hx9 hb9 dLaw_law_543 (by decide) ?_
  refine k_iadd (v := nI (i + 1)) hx9 hb9 dLaw_law_544 (add_lit (k := 1) (by decide)) ?_
  refine lsx C hS (j := i + 1) (by omega) dLaw_law_545 ?_
  refine lv_aload_n hx9 hb9 dLaw_law_546 rfl (lv_at hl 1 rfl) ?_
  refine lv_iload hx9 hb9 dLaw_law_547 (lv_at hl 6 rfl) ?_
  refine lv_iconst (v := 2) hx9 hb9 dLaw_law_549 (by decide) ?_
  refine k_iadd (v := nI (i + 2)) hx9 hb9 dLaw_law_550 (add_lit (k := 2) (by decide)) ?_
  refine lsx C hS (j := i + 2) (by omega) dLaw_law_551 ?_
  refine lcM (as := [.int (xs (i + 1)), .int (xs (i + 2))]) C km_Law_94 ki_Mod_damage kv_Mod_damage kc_Mod_damage (n := 2) (rest := []) (by decide +kernel) rfl rfl (Nat.le_of_ble_eq_true rfl) (by decide) dLaw_law_552 he2 hM hP hD hS hl.1 hc1 hs1 (fun W9 H locs e9 hP27 hD27 hS => ?_)
  have hR1 := hRS _ e9
  have hP := hP27
  have hD := hD27
  obtain ⟨fs3, he3⟩ := (rs_0 (l := l) (D := D) (cJ := cJ) (cD := cD) hR1).2
  refine lv_istore (lv' := [(7, .int b), (6, .int k), (0, .ref b0), (1, .ref hx), (2, .ref hm), (3, .ref o), (4, .ref od), (5, .int (nI i))]) hx9 hb9 dLaw_law_555 hl (by decide) rfl (fun ls hl => ?_)
  refine lv_aload_n hx9 hb9 dLaw_law_557 rfl (lv_at hl 4 rfl) ?_
  refine lcM (as := []) C km_Law_65 ki_Mod_thrown kv_Mod_thrown kc_Mod_thrown (n := 0) (rest := []) (by decide +kernel) rfl rfl (Nat.le_of_ble_eq_true rfl) (by decide) dLaw_law_558 he3 (rs_thrown (cJ := cJ) (cD := cD) hR1) hP hD hS hl.1 hc1 hs1 (fun W9 H locs e9 hP28 hD28 hS => ?_)
  rcases e9 with rfl
  have hP := hP28
  have hD := hD28
  refine lv_iload hx9 hb9 dLaw_law_561 (lv_at hl 1 rfl) ?_
  refine lv_icmp_eq (tgt := 568) hx9 hb9 dLaw_law_563 (by decide) (fun _ => ?_) (fun q => absurd rfl q)
  refine lv_iload hx9 hb9 dLaw_law_568 (lv_at hl 1 rfl) ?_
  refine lv_if_ne (tgt := 585) hx9 hb9 dLaw_law_570 (by decide) (fun _ => ?_) (fun hk0 => ?_)
  · refine lv_goto (tgt := 778) hx9 hb9 dLaw_law_585 (by decide) ?_
    exact next _ _ _ _ _ _ _ _ hR1 hP hD hS (lv_sub hl [2, 3, 4, 5, 6, 7] rfl)
  · have hv0 : f 0 = b.toInt64 := by rw [hv hk0, hkv hk0]
    refine lv_aload_n hx9 hb9 dLaw_law_573 rfl (lv_at hl 5 rfl) ?_
    refine lv_iconst (v := 0) hx9 hb9 dLaw_law_574 (by decide) ?_
    refine k_lald C hP hv0 dLaw_law_575 ?_
    refine lv_iload hx9 hb9 dLaw_law_576 (lv_at hl 0 rfl) ?_
    refine lv_i2l hx9 hb9 dLaw_law_578 rfl ?_
    refine W.lcmp hx9 hb9 dLaw_law_579 ?_
    refine lv_if_eq (tgt := 585) hx9 hb9 dLaw_law_580 (by decide) (fun _ => ?_) (fun q => absurd (lgc _) q)
    refine lv_goto (tgt := 778) hx9 hb9 dLaw_law_585 (by decide) ?_
    exact next _ _ _ _ _ _ _ _ hR1 hP hD hS (lv_sub hl [2, 3, 4, 5, 6, 7] rfl)
set_option maxRecDepth 100000 in
set_option maxHeartbeats 1000000 in
theorem lw_cut (C : LX p l R s m meth c D cF cI cJ cD b0 L xs) (hi : i + 3 ≤ L) (hc1 : cells + 1 ≤ R.cells) (hs1 : slots + 6 ≤ R.slots) (hR : RS cF cI hx hm th WC WM) (hP : va_P D vwCl (TW cJ cD o od f g WC WM) H) (hD : va_D (LA s) (TW cJ cD o od f g WC WM)) (hS : va_S (LA s) s.heap H locs) (hl : lv_has ls 9 [(0, .ref b0), (1, .ref hx), (2, .ref hm), (3, .ref o), (4, .ref od), (5, .int (nI i))]) (next : NX p l e R s m below meth c D cF cI cJ cD b0 o od hx hm (cells + 1) (slots + 6) Q i 778) :
    W p l e R s m #[Value.ref b0] below meth c H locs cells slots Q (F0 m 588 ls []) := by
  obtain ⟨hx9, hb9, hml9, hown9, ht9, -, -, -, -, -, -, -, hl0, -, -, hL9⟩ := id C
  obtain ⟨⟨fs1, he1⟩, ⟨fs2, he2⟩⟩ := rs_0 (l := l) (D := D) (cJ := cJ) (cD := cD) hR
  obtain ⟨k, v, b, W1, P2, hJ, hM, hRS, hkv⟩ := rs_cut (D := D) (cJ := cJ) (cD := cD) hl0 hR (xs (i + 1))
  refine lv_aload_n hx9 hb9 dLaw_law_588 rfl (lv_at hl 1 rfl) ?_
  refine lv_aload_n hx9 hb9 dLaw_law_589 rfl (lv_at hl 0 rfl) ?_
  refine lv_iload hx9 hb9 dLaw_law_590 (lv_at hl 5 rfl) ?_
  refine lv_iconst (v := 1) hx9 hb9 dLaw_law_592 (by decide) ?_
  refine k_iadd (v := nI (i + 1)) hx9 hb9 dLaw_law_593 (add_lit (k := 1) (by decide)) ?_
  refine lsx C hS (j := i + 1) (by omega) dLaw_law_594 ?_
  refine lv_aload_n hx9 hb9 dLaw_law_595 rfl (lv_at hl 3 rfl) ?_
  refine lcJ (as := [.ref hx, .int (xs (i + 1)), .ref o]) C km_Law_95 ks_Law_cut rfl kc_Law_cut (n := 3) (by decide +kernel) rfl rfl (by decide) dLaw_law_596 (hJ _ _) hP hD hS hl.1 hc1 hs1 (fun f W9 H locs e9 hv hP29 hD29 hS => ?_)
  rcases e9 with rfl
  have hP := hP29
  have hD := hD29
  refine lv_istore (lv' := [(6, .int k), (0, .ref b0), (1, .ref hx), (2, .ref hm), (3, .ref o), (4, .ref od), (5, .int (nI i))]) hx9 hb9 dLaw_law_599 hl (by decide) rfl (fun ls hl => ?_)
  refine lv_aload_n hx9 hb9 dLaw_law_601 rfl (lv_at hl 3 rfl) ?_
  refine lv_aload_n hx9 hb9 dLaw_law_602 rfl (lv_at hl 1 rfl) ?_
  refine lv_iload hx9 hb9 dLaw_law_603 (lv_at hl 6 rfl) ?_
  refine lv_iconst (v := 1) hx9 hb9 dLaw_law_605 (by decide) ?_
  refine k_iadd (v := nI (i + 1)) hx9 hb9 dLaw_law_606 (add_lit (k := 1) (by decide)) ?_
  refine lsx C hS (j := i + 1) (by omega) dLaw_law_607 ?_
  refine lcM (as := [.int (xs (i + 1))]) C km_Law_97 ki_Mod_cut kv_Mod_cut kc_Mod_cut (n := 1) (rest := []) (by decide +kernel) rfl rfl (Nat.le_of_ble_eq_true rfl) (by decide) dLaw_law_608 he2 hM hP hD hS hl.1 hc1 hs1 (fun W9 H locs e9 hP30 hD30 hS => ?_)
  have hR1 := hRS _ e9
  have hP := hP30
  have hD := hD30
  obtain ⟨fs3, he3⟩ := (rs_0 (l := l) (D := D) (cJ := cJ) (cD := cD) hR1).2
  refine lv_istore (lv' := [(7, .int b), (6, .int k), (0, .ref b0), (1, .ref hx), (2, .ref hm), (3, .ref o), (4, .ref od), (5, .int (nI i))]) hx9 hb9 dLaw_law_611 hl (by decide) rfl (fun ls hl => ?_)
  refine lv_aload_n hx9 hb9 dLaw_law_613 rfl (lv_at hl 4 rfl) ?_
  refine lcM (as := []) C km_Law_65 ki_Mod_thrown kv_Mod_thrown kc_Mod_thrown (n := 0) (rest := []) (by decide +kernel) rfl rfl (Nat.le_of_ble_eq_true rfl) (by decide) dLaw_law_614 he3 (rs_thrown (cJ := cJ) (cD := cD) hR1) hP hD hS hl.1 hc1 hs1 (fun W9 H locs e9 hP31 hD31 hS => ?_)
  rcases e9 with rfl
  have hP := hP31
  have hD := hD31
  refine lv_iload hx9 hb9 dLaw_law_617 (lv_at hl 1 rfl) ?_
  refine lv_icmp_eq (tgt := 624) hx9 hb9 dLaw_law_619 (by decide) (fun _ => ?_) (fun q => absurd rfl q)
  refine lv_iload hx9 hb9 dLaw_law_624 (lv_at hl 1 rfl) ?_
  refine lv_if_ne (tgt := 641) hx9 hb9 dLaw_law_626 (by decide) (fun _ => ?_) (fun hk0 => ?_)
  · refine lv_goto (tgt := 778) hx9 hb9 dLaw_law_641 (by decide) ?_
    exact next _ _ _ _ _ _ _ _ hR1 hP hD hS (lv_sub hl [2, 3, 4, 5, 6, 7] rfl)
  · have hv0 : f 0 = b.toInt64 := by rw [hv hk0, hkv hk0]
    refine lv_aload_n hx9 hb9 dLaw_law_629 rfl (lv_at hl 5 rfl) ?_
    refine lv_iconst (v := 0) hx9 hb9 dLaw_law_630 (by decide) ?_
    refine k_lald C hP hv0 dLaw_law_631 ?_
    refine lv_iload hx9 hb9 dLaw_law_632 (lv_at hl 0 rfl) ?_
    refine lv_i2l hx9 hb9 dLaw_law_634 rfl ?_
    refine W.lcmp hx9 hb9 dLaw_law_635 ?_
    refine lv_if_eq (tgt := 641) hx9 hb9 dLaw_law_636 (by decide) (fun _ => ?_) (fun q => absurd (lgc _) q)
    refine lv_goto (tgt := 778) hx9 hb9 dLaw_law_641 (by decide) ?_
    exact next _ _ _ _ _ _ _ _ hR1 hP hD hS (lv_sub hl [2, 3, 4, 5, 6, 7] rfl)
set_option maxRecDepth 100000 in
set_option maxHeartbeats 1000000 in
theorem lw_reset (C : LX p l R s m meth c D cF cI cJ cD b0 L xs) (hi : i + 3 ≤ L) (hc1 : cells + 1 ≤ R.cells) (hs1 : slots + 6 ≤ R.slots) (hR : RS cF cI hx hm th WC WM) (hP : va_P D vwCl (TW cJ cD o od f g WC WM) H) (hD : va_D (LA s) (TW cJ cD o od f g WC WM)) (hS : va_S (LA s) s.heap H locs) (hl : lv_has ls 9 [(0, .ref b0), (1, .ref hx), (2, .ref hm), (3, .ref o), (4, .ref od), (5, .int (nI i))]) (next : NX p l e R s m below meth c D cF cI cJ cD b0 o od hx hm (cells + 1) (slots + 6) Q i 778) :
    W p l e R s m #[Value.ref b0] below meth c H locs cells slots Q (F0 m 644 ls []) := by
  obtain ⟨hx9, hb9, hml9, hown9, ht9, -, -, -, -, -, -, -, hl0, -, -, hL9⟩ := id C
  obtain ⟨⟨fs1, he1⟩, ⟨fs2, he2⟩⟩ := rs_0 (l := l) (D := D) (cJ := cJ) (cD := cD) hR
  have hc0 : cells ≤ R.cells := by omega
  have hs0 : slots ≤ R.slots := by omega
  obtain ⟨r, W1, P2, hJ, hM, hRS⟩ := rs_reset (l := l) (D := D) (cJ := cJ) (cD := cD) hR
  refine lv_aload_n hx9 hb9 dLaw_law_644 rfl (lv_at hl 1 rfl) ?_
  refine lcC (as := []) C km_Law_98 ki_VF_reset kv_VF_reset kc_VF_reset (n := 0) (rest := []) (by decide +kernel) rfl rfl (Nat.le_of_ble_eq_true rfl) (by decide) dLaw_law_645 he1 hJ hP hD hS hl.1 hc0 hs0 (fun W9 H locs e9 hP32 hD32 hS => ?_)
  rcases e9 with rfl
  have hP := hP32
  have hD := hD32
  refine lv_aload_n hx9 hb9 dLaw_law_648 rfl (lv_at hl 2 rfl) ?_
  refine lcM (as := []) C km_Law_101 ki_Mod_reset kv_Mod_reset kc_Mod_reset (n := 0) (rest := [.int r]) (by decide +kernel) rfl rfl (Nat.le_of_ble_eq_true rfl) (by decide) dLaw_law_649 he2 hM hP hD hS hl.1 hc0 hs0 (fun W9 H locs e9 hP33 hD33 hS => ?_)
  have hR1 := hRS _ e9
  have hP := hP33
  have hD := hD33
  refine W.widen (k := cells + 1) (n := slots + 6) (by omega) (by omega) ?_
  refine lv_icmp_eq (tgt := 778) hx9 hb9 dLaw_law_652 (by decide) (fun _ => ?_) (fun q => absurd rfl q)
  exact next _ _ _ _ _ _ _ _ hR1 hP hD hS (lv_sub hl [0, 1, 2, 3, 4, 5] rfl)
set_option maxRecDepth 100000 in
set_option maxHeartbeats 1000000 in
theorem lw_apart (C : LX p l R s m meth c D cF cI cJ cD b0 L xs) (hi : i + 3 ≤ L) (hc1 : cells + 1 ≤ R.cells) (hs1 : slots + 6 ≤ R.slots) (hR : RS cF cI hx hm th WC WM) (hP : va_P D vwCl (TW cJ cD o od f g WC WM) H) (hD : va_D (LA s) (TW cJ cD o od f g WC WM)) (hS : va_S (LA s) s.heap H locs) (hl : lv_has ls 9 [(0, .ref b0), (1, .ref hx), (2, .ref hm), (3, .ref o), (4, .ref od), (5, .int (nI i))]) (next : NX p l e R s m below meth c D cF cI cJ cD b0 o od hx hm (cells + 1) (slots + 6) Q i 778) :
    W p l e R s m #[Value.ref b0] below meth c H locs cells slots Q (F0 m 657 ls []) := by
  obtain ⟨hx9, hb9, hml9, hown9, ht9, -, -, -, -, -, -, -, hl0, -, -, hL9⟩ := id C
  obtain ⟨⟨fs1, he1⟩, ⟨fs2, he2⟩⟩ := rs_0 (l := l) (D := D) (cJ := cJ) (cD := cD) hR
  obtain ⟨k, v, b, W1, P2, hJ, hM, hRS, hkv⟩ := rs_apart (D := D) (cJ := cJ) (cD := cD) hl0 hR 
  refine lv_aload_n hx9 hb9 dLaw_law_657 rfl (lv_at hl 1 rfl) ?_
  refine lv_aload hx9 hb9 dLaw_law_658 (lv_at hl 4 rfl) ?_
  refine lcD (as := [.ref hx, .ref od]) C km_Law_102 ks_Law_apart rfl kc_Law_apart (n := 2) (by decide +kernel) rfl rfl (by decide) dLaw_law_660 (hJ _ _) hP hD hS hl.1 hc1 hs1 (fun g W9 H locs e9 hv hP34 hD34 hS => ?_)
  rcases e9 with rfl
  have hP := hP34
  have hD := hD34
  refine lv_istore (lv' := [(6, .int k), (0, .ref b0), (1, .ref hx), (2, .ref hm), (3, .ref o), (4, .ref od), (5, .int (nI i))]) hx9 hb9 dLaw_law_663 hl (by decide) rfl (fun ls hl => ?_)
  refine lv_aload_n hx9 hb9 dLaw_law_665 rfl (lv_at hl 3 rfl) ?_
  refine lcN (as := []) C km_Law_105 ki_Mod_apart kv_Mod_apart kc_Mod_apart (n := 0) (rest := []) (by decide +kernel) rfl rfl (Nat.le_of_ble_eq_true rfl) (by decide) dLaw_law_666 he2 hM hP hD hS hl.1 hc1 hs1 (fun W9 H locs e9 hP35 hD35 hS => ?_)
  have hR1 := hRS _ e9
  have hP := hP35
  have hD := hD35
  obtain ⟨fs3, he3⟩ := (rs_0 (l := l) (D := D) (cJ := cJ) (cD := cD) hR1).2
  refine lv_dstore (lv' := [(7, .double b), (6, .int k), (0, .ref b0), (1, .ref hx), (2, .ref hm), (3, .ref o), (4, .ref od), (5, .int (nI i))]) hx9 hb9 dLaw_law_669 hl (by decide) rfl (fun ls hl => ?_)
  refine lv_aload_n hx9 hb9 dLaw_law_671 rfl (lv_at hl 4 rfl) ?_
  refine lcM (as := []) C km_Law_65 ki_Mod_thrown kv_Mod_thrown kc_Mod_thrown (n := 0) (rest := []) (by decide +kernel) rfl rfl (Nat.le_of_ble_eq_true rfl) (by decide) dLaw_law_672 he3 (rs_thrown (cJ := cJ) (cD := cD) hR1) hP hD hS hl.1 hc1 hs1 (fun W9 H locs e9 hP36 hD36 hS => ?_)
  rcases e9 with rfl
  have hP := hP36
  have hD := hD36
  refine lv_iload hx9 hb9 dLaw_law_675 (lv_at hl 1 rfl) ?_
  refine lv_icmp_eq (tgt := 682) hx9 hb9 dLaw_law_677 (by decide) (fun _ => ?_) (fun q => absurd rfl q)
  refine lv_iload hx9 hb9 dLaw_law_682 (lv_at hl 1 rfl) ?_
  refine lv_if_ne (tgt := 719) hx9 hb9 dLaw_law_684 (by decide) (fun _ => ?_) (fun hk0 => ?_)
  · refine lv_goto (tgt := 778) hx9 hb9 dLaw_law_719 (by decide) ?_
    exact next _ _ _ _ _ _ _ _ hR1 hP hD hS (lv_sub hl [2, 3, 4, 5, 6, 7] rfl)
  · have hv0 : g 0 = b := by rw [hv hk0, hkv hk0]
    refine lv_aload hx9 hb9 dLaw_law_687 (lv_at hl 6 rfl) ?_
    refine lv_iconst (v := 0) hx9 hb9 dLaw_law_689 (by decide) ?_
    refine k_dald C hP hv0 dLaw_law_690 ?_
    refine lv_dload hx9 hb9 dLaw_law_691 (lv_at hl 0 rfl) ?_
    refine lv_dcmp hx9 hb9 dLaw_law_693 ?_
    refine lv_if_eq (tgt := 719) hx9 hb9 dLaw_law_694 (by decide) (fun _ => ?_) (fun hd0 => ?_)
    · refine lv_goto (tgt := 778) hx9 hb9 dLaw_law_719 (by decide) ?_
      exact next _ _ _ _ _ _ _ _ hR1 hP hD hS (lv_sub hl [2, 3, 4, 5, 6, 7] rfl)
    · refine lv_aload hx9 hb9 dLaw_law_697 (lv_at hl 6 rfl) ?_
      refine lv_iconst (v := 0) hx9 hb9 dLaw_law_699 (by decide) ?_
      refine k_dald C hP hv0 dLaw_law_700 ?_
      refine lv_aload hx9 hb9 dLaw_law_701 (lv_at hl 6 rfl) ?_
      refine lv_iconst (v := 0) hx9 hb9 dLaw_law_703 (by decide) ?_
      refine k_dald C hP hv0 dLaw_law_704 ?_
      refine lv_dcmp hx9 hb9 dLaw_law_705 ?_
      refine lv_if_eq (tgt := 717) hx9 hb9 dLaw_law_706 (by decide) (fun q => absurd q hd0) (fun _ => ?_)
      refine lv_dload hx9 hb9 dLaw_law_709 (lv_at hl 0 rfl) ?_
      refine lv_dload hx9 hb9 dLaw_law_711 (lv_at hl 0 rfl) ?_
      refine lv_dcmp hx9 hb9 dLaw_law_713 ?_
      refine lv_if_ne (tgt := 719) hx9 hb9 dLaw_law_714 (by decide) (fun _ => ?_) (fun q => absurd q hd0)
      refine lv_goto (tgt := 778) hx9 hb9 dLaw_law_719 (by decide) ?_
      exact next _ _ _ _ _ _ _ _ hR1 hP hD hS (lv_sub hl [2, 3, 4, 5, 6, 7] rfl)
set_option maxRecDepth 100000 in
set_option maxHeartbeats 1000000 in
theorem lw_count (C : LX p l R s m meth c D cF cI cJ cD b0 L xs) (hi : i + 3 ≤ L) (hc1 : cells + 1 ≤ R.cells) (hs1 : slots + 6 ≤ R.slots) (hR : RS cF cI hx hm th WC WM) (hP : va_P D vwCl (TW cJ cD o od f g WC WM) H) (hD : va_D (LA s) (TW cJ cD o od f g WC WM)) (hS : va_S (LA s) s.heap H locs) (hl : lv_has ls 9 [(0, .ref b0), (1, .ref hx), (2, .ref hm), (3, .ref o), (4, .ref od), (5, .int (nI i))]) (next : NX p l e R s m below meth c D cF cI cJ cD b0 o od hx hm (cells + 1) (slots + 6) Q i 778) :
    W p l e R s m #[Value.ref b0] below meth c H locs cells slots Q (F0 m 722 ls []) := by
  obtain ⟨hx9, hb9, hml9, hown9, ht9, -, -, -, -, -, -, -, hl0, -, -, hL9⟩ := id C
  obtain ⟨⟨fs1, he1⟩, ⟨fs2, he2⟩⟩ := rs_0 (l := l) (D := D) (cJ := cJ) (cD := cD) hR
  obtain ⟨k, v, b, W1, P2, hJ, hM, hRS, hkv⟩ := rs_count (D := D) (cJ := cJ) (cD := cD) hl0 hR (xs (i + 1))
  refine lv_aload_n hx9 hb9 dLaw_law_722 rfl (lv_at hl 1 rfl) ?_
  refine lv_aload_n hx9 hb9 dLaw_law_723 rfl (lv_at hl 0 rfl) ?_
  refine lv_iload hx9 hb9 dLaw_law_724 (lv_at hl 5 rfl) ?_
  refine lv_iconst (v := 1) hx9 hb9 dLaw_law_726 (by decide) ?_
  refine k_iadd (v := nI (i + 1)) hx9 hb9 dLaw_law_727 (add_lit (k := 1) (by decide)) ?_
  refine lsx C hS (j := i + 1) (by omega) dLaw_law_728 ?_
  refine lv_aload_n hx9 hb9 dLaw_law_729 rfl (lv_at hl 3 rfl) ?_
  refine lcJ (as := [.ref hx, .int (xs (i + 1)), .ref o]) C km_Law_106 ks_Law_count rfl kc_Law_count (n := 3) (by decide +kernel) rfl rfl (by decide) dLaw_law_730 (hJ _ _) hP hD hS hl.1 hc1 hs1 (fun f W9 H locs e9 hv hP37 hD37 hS => ?_)
  rcases e9 with rfl
  have hP := hP37
  have hD := hD37
  refine lv_istore (lv' := [(6, .int k), (0, .ref b0), (1, .ref hx), (2, .ref hm), (3, .ref o), (4, .ref od), (5, .int (nI i))]) hx9 hb9 dLaw_law_733 hl (by decide) rfl (fun ls hl => ?_)
  refine lv_aload_n hx9 hb9 dLaw_law_735 rfl (lv_at hl 3 rfl) ?_
  refine lv_aload_n hx9 hb9 dLaw_law_736 rfl (lv_at hl 1 rfl) ?_
  refine lv_iload hx9 hb9 dLaw_law_737 (lv_at hl 6 rfl) ?_
  refine lv_iconst (v := 1) hx9 hb9 dLaw_law_739 (by decide) ?_
  refine k_iadd (v := nI (i + 1)) hx9 hb9 dLaw_law_740 (add_lit (k := 1) (by decide)) ?_
  refine lsx C hS (j := i + 1) (by omega) dLaw_law_741 ?_
  refine lcM (as := [.int (xs (i + 1))]) C km_Law_108 ki_Mod_count kv_Mod_count kc_Mod_count (n := 1) (rest := []) (by decide +kernel) rfl rfl (Nat.le_of_ble_eq_true rfl) (by decide) dLaw_law_742 he2 hM hP hD hS hl.1 hc1 hs1 (fun W9 H locs e9 hP38 hD38 hS => ?_)
  have hR1 := hRS _ e9
  have hP := hP38
  have hD := hD38
  obtain ⟨fs3, he3⟩ := (rs_0 (l := l) (D := D) (cJ := cJ) (cD := cD) hR1).2
  refine lv_istore (lv' := [(7, .int b), (6, .int k), (0, .ref b0), (1, .ref hx), (2, .ref hm), (3, .ref o), (4, .ref od), (5, .int (nI i))]) hx9 hb9 dLaw_law_745 hl (by decide) rfl (fun ls hl => ?_)
  refine lv_aload_n hx9 hb9 dLaw_law_747 rfl (lv_at hl 4 rfl) ?_
  refine lcM (as := []) C km_Law_65 ki_Mod_thrown kv_Mod_thrown kc_Mod_thrown (n := 0) (rest := []) (by decide +kernel) rfl rfl (Nat.le_of_ble_eq_true rfl) (by decide) dLaw_law_748 he3 (rs_thrown (cJ := cJ) (cD := cD) hR1) hP hD hS hl.1 hc1 hs1 (fun W9 H locs e9 hP39 hD39 hS => ?_)
  rcases e9 with rfl
  have hP := hP39
  have hD := hD39
  refine lv_iload hx9 hb9 dLaw_law_751 (lv_at hl 1 rfl) ?_
  refine lv_icmp_eq (tgt := 758) hx9 hb9 dLaw_law_753 (by decide) (fun _ => ?_) (fun q => absurd rfl q)
  refine lv_iload hx9 hb9 dLaw_law_758 (lv_at hl 1 rfl) ?_
  refine lv_if_ne (tgt := 775) hx9 hb9 dLaw_law_760 (by decide) (fun _ => ?_) (fun hk0 => ?_)
  · refine lv_goto (tgt := 778) hx9 hb9 dLaw_law_775 (by decide) ?_
    exact next _ _ _ _ _ _ _ _ hR1 hP hD hS (lv_sub hl [2, 3, 4, 5, 6, 7] rfl)
  · have hv0 : f 0 = b.toInt64 := by rw [hv hk0, hkv hk0]
    refine lv_aload_n hx9 hb9 dLaw_law_763 rfl (lv_at hl 5 rfl) ?_
    refine lv_iconst (v := 0) hx9 hb9 dLaw_law_764 (by decide) ?_
    refine k_lald C hP hv0 dLaw_law_765 ?_
    refine lv_iload hx9 hb9 dLaw_law_766 (lv_at hl 0 rfl) ?_
    refine lv_i2l hx9 hb9 dLaw_law_768 rfl ?_
    refine W.lcmp hx9 hb9 dLaw_law_769 ?_
    refine lv_if_eq (tgt := 775) hx9 hb9 dLaw_law_770 (by decide) (fun _ => ?_) (fun q => absurd (lgc _) q)
    refine lv_goto (tgt := 778) hx9 hb9 dLaw_law_775 (by decide) ?_
    exact next _ _ _ _ _ _ _ _ hR1 hP hD hS (lv_sub hl [2, 3, 4, 5, 6, 7] rfl)
end Law
