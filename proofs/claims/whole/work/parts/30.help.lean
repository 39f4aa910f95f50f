/-! LAW'S HELPERS: CONTRACTS OVER WORLDS THAT ARE VARIABLES -/
section Wrl
variable {D : va_G} {cl : List vw_C} {ws w1 w2 wr wc : va_W} {H H1 : Heap} {A A0 : Nat → Prop}
theorem wP_mem (h : va_P D cl ws H) {q : Nat × va_E} (hq : q ∈ ws) : va_at D cl q H := by
  obtain ⟨i, hi⟩ := List.getElem?_of_mem hq
  exact h i q hi
theorem wP_of (h : ∀ q ∈ ws, va_at D cl q H) : va_P D cl ws H := fun k q hk => h q (List.mem_of_getElem? hk)
theorem wP_perm (hp : w1.Perm w2) (h : va_P D cl w1 H) : va_P D cl w2 H := wP_of fun q hq => wP_mem h (hp.mem_iff.mpr hq)
theorem wP_left (h : va_P D cl (w1 ++ w2) H) : va_P D cl w1 H := wP_of fun q hq => wP_mem h (List.mem_append_left _ hq)
theorem wP_right (h : va_P D cl (w1 ++ w2) H) : va_P D cl w2 H := wP_of fun q hq => wP_mem h (List.mem_append_right _ hq)
theorem wD_nodup (h : va_D A ws) : (ws.map (fun q => q.1)).Nodup := by
  show List.Pairwise (fun a b => a ≠ b) (ws.map (fun q => q.1))
  rw [List.pairwise_map, List.pairwise_iff_getElem]
  intro i j hi hj hij he
  have := h.1 i j ws[i] ws[j] (List.getElem?_eq_getElem hi) (List.getElem?_eq_getElem hj) he
  omega
theorem wD_of (hn : (ws.map (fun q => q.1)).Nodup) (hA : ∀ q ∈ ws, A q.1) : va_D A ws := by
  have hn' : List.Pairwise (fun a b : Nat × va_E => a.1 ≠ b.1) ws := List.pairwise_map.mp hn
  rw [List.pairwise_iff_getElem] at hn'
  refine ⟨fun i j p q hi hj hpq => ?_, fun k q hk => hA q (List.mem_of_getElem? hk)⟩
  obtain ⟨hi1, rfl⟩ := List.getElem?_eq_some_iff.mp hi
  obtain ⟨hj1, rfl⟩ := List.getElem?_eq_some_iff.mp hj
  rcases Nat.lt_trichotomy i j with h | h | h
  · exact absurd hpq (hn' i j hi1 hj1 h)
  · exact h
  · exact absurd hpq.symm (hn' j i hj1 hi1 h)
theorem wD_mem (h : va_D A ws) {q : Nat × va_E} (hq : q ∈ ws) : A q.1 := by
  obtain ⟨i, hi⟩ := List.getElem?_of_mem hq
  exact h.2 i q hi
theorem wD_perm (hp : w1.Perm w2) (h : va_D A w1) : va_D A w2 := wD_of ((hp.map (fun q => q.1)).nodup_iff.mp (wD_nodup h)) (fun q hq => wD_mem h (hp.mem_iff.mpr hq))
theorem wD_right (h : va_D A (w1 ++ w2)) : va_D A w2 := by
  have key : ∀ (k : Nat) (q : Nat × va_E), w2[k]? = some q → (w1 ++ w2)[w1.length + k]? = some q := fun k q hk => by
    rw [List.getElem?_append_right (by omega), Nat.add_sub_cancel_left]; exact hk
  refine ⟨fun i j p q hi hj hpq => ?_, fun k q hk => h.2 _ q (key k q hk)⟩
  have := h.1 _ _ p q (key i p hi) (key j q hj) hpq
  omega
theorem wD_left (h : va_D A (w1 ++ w2)) : va_D A w1 := by
  have key : ∀ (k : Nat) (q : Nat × va_E), w1[k]? = some q → (w1 ++ w2)[k]? = some q := fun k q hk => by
    rw [List.getElem?_append_left (List.getElem?_eq_some_iff.mp hk).1]; exact hk
  exact ⟨fun i j p q hi hj hpq => h.1 _ _ p q (key i p hi) (key j q hj) hpq, fun k q hk => h.2 _ q (key k q hk)⟩
theorem perm_idx {α : Type} {ws ws' : List α} (is : List Nat) (n : Nat) (hn : ws.length = n) (hp0 : is.isPerm (List.range n) = true) (hs : is.map (fun i => ws[i]?) = ws'.map some) : ws.Perm ws' := by
  have hp : is.Perm (List.range ws.length) := by rw [hn]; exact List.isPerm_iff.mp hp0
  have h1 : (List.range ws.length).map (fun i => ws[i]?) = ws.map some := by
    apply List.ext_getElem
    · simp
    · intro i h1 h2
      simp
  have h2 := hp.map (fun i => ws[i]?)
  rw [h1, hs] at h2
  have h3 := h2.filterMap id
  rw [List.filterMap_map, List.filterMap_map] at h3
  have e : ∀ l : List α, l.filterMap (id ∘ some) = l := fun l => by
    show l.filterMap some = l
    exact List.filterMap_some
  rw [e, e] at h3
  exact h3.symm
theorem freeA {H0 : Heap} {locs : List Loc} (hD : va_D A0 (wr ++ wc)) (hS : va_S A0 H0 H locs) (hA : ∀ q, H0.size ≤ q → A0 q) : ∀ q, va_A wc H.size q → A0 q := by
  intro q h
  rcases h with ⟨k, e, h⟩ | h
  · exact (wD_right hD).2 k (q, e) h
  · exact hA q (Nat.le_trans hS.1 h)
theorem joinA {A1 : Nat → Prop} (hP : va_P D cl (wr ++ wc) H) (hD : va_D A1 (wr ++ wc)) (hDr : va_D A0 wr) (hk : ∀ q : Nat, q < H.size → ¬ va_A wc H.size q → H1[q]? = H[q]?) (hF : ∀ q, va_A wc H.size q → A0 q) (hP1 : va_P D cl w1 H1) (hD1 : va_D (va_A wc H.size) w1) : va_P D cl (wr ++ w1) H1 ∧ va_D A0 (wr ++ w1) := by
  have apart : ∀ q ∈ wr, q.1 < H.size ∧ ¬ va_A wc H.size q.1 := by
    intro q hq
    have hl := (wP_mem hP (List.mem_append_left _ hq)).lt
    refine ⟨hl, fun h => ?_⟩
    rcases h with ⟨k2, e, h⟩ | h
    · obtain ⟨i, hi⟩ := List.getElem?_of_mem hq
      have h0 := (List.getElem?_eq_some_iff.mp hi).1
      have h1 : (wr ++ wc)[i]? = some q := by rw [List.getElem?_append_left h0]; exact hi
      have h2 : (wr ++ wc)[wr.length + k2]? = some (q.1, e) := by rw [List.getElem?_append_right (by omega), Nat.add_sub_cancel_left]; exact h
      have := hD.1 i (wr.length + k2) q (q.1, e) h1 h2 rfl
      omega
    · omega
  refine ⟨wP_of fun q hq => ?_, va_D.app hDr (hD1.weaken (fun k q _ h => hF q.1 h)) (fun i j x y hx hy hxy => ?_)⟩
  · rcases List.mem_append.mp hq with h | h
    · obtain ⟨g1, g2⟩ := apart q h
      exact (wP_mem hP (List.mem_append_left _ h)).kept (hk q.1 g1 g2)
    · exact wP_mem hP1 h
  · exact (apart x (List.mem_of_getElem? hx)).2 (by rw [hxy]; exact hD1.2 j y hy)
theorem A_of {sz : Nat} (hp : ws.Perm (wr ++ wc)) : ∀ q, va_A wc sz q → va_A ws sz q := by
  intro q h
  rcases h with ⟨k, e, h⟩ | h
  · have hm : (q, e) ∈ ws := hp.mem_iff.mpr (List.mem_append_right _ (List.mem_of_getElem? h))
    obtain ⟨i, hi⟩ := List.getElem?_of_mem hm
    exact Or.inl ⟨i, e, hi⟩
  · exact Or.inr h
end Wrl
/-! a contract over a part of a world, over the whole of it -/
section Frm
variable {l : Launch} {y : MethodName} {cs : List Cond} {rm : Room} {as : List Value} {D : va_G} {cF cI : ClassId} {wc wr W : va_W} {sz mc ms : Nat}
theorem met_i {S : Type} {post : Int32 → S → Prop} {w w' : S → va_W} (hp : W.Perm (wr ++ wc)) (hw : ∀ u, (wr ++ w u).Perm (w' u)) (h : Met l y cs rm (va_Pc as (cPre D cF cI wc sz)) (va_Qi post (cB D cF cI (va_A wc sz) w) (va_A wc sz)) mc ms (va_A wc sz)) :
    Met l y cs rm (va_Pc as (cPre D cF cI W sz)) (va_Qi post (cB D cF cI (va_A W sz) w') (va_A W sz)) mc ms (va_A W sz) := by
  intro p e ha hc hk s m args below hf happ hP ht
  obtain ⟨rfl, rfl, hPW, hK, hD, hA⟩ := hP
  have hm := A_of (sz := s.heap.size) hp
  have hDW := wD_perm hp (hD.self (sz := s.heap.size))
  have hPW' := wP_perm hp hPW
  obtain ⟨n, o, h1, h2, h3, ⟨⟨r, u, ho, hpo, hB1, hB2, hB3⟩, hFz, hFk⟩, L, hFE, hL⟩ := h p e ha hc hk s m as.toArray below hf happ ⟨rfl, rfl, wP_right hPW', hK, (wD_right hDW).weaken (fun _ _ _ _ => trivial), hA⟩ ht
  obtain ⟨hP2, hD2⟩ := joinA (A0 := va_A W s.heap.size) hPW' hDW (wD_left hDW) hFk hm hB1 hB3
  exact ⟨n, o, h1, h2, h3, ⟨⟨r, u, ho, hpo, wP_perm (hw u) hP2, hB2, wD_perm (hw u) hD2⟩, hFz, fun q hq hn => hFk q hq (fun z => hn (hm q z))⟩, L, hFE, fun q hq => hm _ (hL q hq)⟩
theorem met_d {S : Type} {post : UInt64 → S → Prop} {w w' : S → va_W} (hp : W.Perm (wr ++ wc)) (hw : ∀ u, (wr ++ w u).Perm (w' u)) (h : Met l y cs rm (va_Pc as (cPre D cF cI wc sz)) (va_Qd post (cB D cF cI (va_A wc sz) w) (va_A wc sz)) mc ms (va_A wc sz)) :
    Met l y cs rm (va_Pc as (cPre D cF cI W sz)) (va_Qd post (cB D cF cI (va_A W sz) w') (va_A W sz)) mc ms (va_A W sz) := by
  intro p e ha hc hk s m args below hf happ hP ht
  obtain ⟨rfl, rfl, hPW, hK, hD, hA⟩ := hP
  have hm := A_of (sz := s.heap.size) hp
  have hDW := wD_perm hp (hD.self (sz := s.heap.size))
  have hPW' := wP_perm hp hPW
  obtain ⟨n, o, h1, h2, h3, ⟨⟨r, u, ho, hpo, hB1, hB2, hB3⟩, hFz, hFk⟩, L, hFE, hL⟩ := h p e ha hc hk s m as.toArray below hf happ ⟨rfl, rfl, wP_right hPW', hK, (wD_right hDW).weaken (fun _ _ _ _ => trivial), hA⟩ ht
  obtain ⟨hP2, hD2⟩ := joinA (A0 := va_A W s.heap.size) hPW' hDW (wD_left hDW) hFk hm hB1 hB3
  exact ⟨n, o, h1, h2, h3, ⟨⟨r, u, ho, hpo, wP_perm (hw u) hP2, hB2, wD_perm (hw u) hD2⟩, hFz, fun q hq hn => hFk q hq (fun z => hn (hm q z))⟩, L, hFE, fun q hq => hm _ (hL q hq)⟩
theorem met_x {E : String} {w1 w1' : va_W} {Q1 Q2 : Array Value → State → Outcome → State → Prop} (hQ : ∀ a st o t, Q1 a st o t → False) (hp : W.Perm (wr ++ wc)) (hw : (wr ++ w1).Perm w1') (h : vx_Met l y cs rm (va_Pc as (cPreX D cF cI wc sz)) Q1 (vx_X (fun _ : Unit => True) (xB D cF cI (va_A wc sz) E w1) (va_A wc sz)) mc ms (va_A wc sz)) :
    vx_Met l y cs rm (va_Pc as (cPreX D cF cI W sz)) Q2 (vx_X (fun _ : Unit => True) (xB D cF cI (va_A W sz) E w1') (va_A W sz)) mc ms (va_A W sz) := by
  intro p e ha hc hk s m args below hf happ hP ht
  obtain ⟨rfl, ⟨rfl, hPW, hK, hD, hA⟩, hU, hN, hX⟩ := hP
  have hm := A_of (sz := s.heap.size) hp
  have hDW := wD_perm hp (hD.self (sz := s.heap.size))
  have hPW' := wP_perm hp hPW
  obtain ⟨n, o, h1, h2, h3, h4⟩ := h p e ha hc hk s m as.toArray below hf happ ⟨rfl, ⟨rfl, wP_right hPW', hK, (wD_right hDW).weaken (fun _ _ _ _ => trivial), hA⟩, hU.narrow hm, hN.narrow hm, hX⟩ ht
  refine ⟨n, o, h1, h2, h3, ?_⟩
  rcases h4 with ⟨h5, -⟩ | ⟨q, hq, E9, ce, L, ⟨u, hu, ⟨hE, hB1, hB2, hB3⟩, hFz, hFk⟩, g1, g2, g3, g4, g5, g6⟩
  · exact (hQ _ _ _ _ h5).elim
  · obtain ⟨hP2, hD2⟩ := joinA (A0 := va_A W s.heap.size) hPW' hDW (wD_left hDW) hFk hm hB1 hB3
    exact Or.inr ⟨q, hq, E9, ce, L, ⟨u, hu, ⟨hE, wP_perm hw hP2, hB2, wD_perm hw hD2⟩, hFz, fun q hq hn => hFk q hq (fun z => hn (hm q z))⟩, g1, g2, g3, g4, g5, fun z hz => hm _ (g6 z hz)⟩
end Frm
theorem qn_i {A : Nat → Prop} : ∀ a st o t, va_Qi (fun _ (_ : Unit) => False) (fun _ _ => True) A a st o t → False := fun _ _ _ _ h => by
  obtain ⟨⟨r, u, -, hf, -⟩, -⟩ := h
  exact hf
theorem qn_d {A : Nat → Prop} : ∀ a st o t, va_Qd (fun _ (_ : Unit) => False) (fun _ _ => True) A a st o t → False := fun _ _ _ _ h => by
  obtain ⟨⟨r, u, -, hf, -⟩, -⟩ := h
  exact hf
abbrev RM (fr mc ms lo : Nat) : Room := { frames := fr, cells := mc, slots := ms, locals := lo }
/-! what a call does: it returns v, and the world is one of P; or it throws E -/
def CI (l : Launch) (D : va_G) (cF cI : ClassId) (y : MethodName) (cd : Cond) (as : List Value) (W : va_W) (v : Int32) (P : va_W → Prop) : Prop :=
  ∃ (S : Type) (w : S → va_W) (fr lo : Nat), fr ≤ 7 ∧ lo ≤ 200 ∧ (∀ u, P (w u)) ∧ ∀ sz : Nat, Met l y (cd :: TB) (RM fr 0 0 lo) (va_Pc as (cPre D cF cI W sz)) (va_Qi (fun r (_ : S) => r = v) (cB D cF cI (va_A W sz) w) (va_A W sz)) 0 0 (va_A W sz)
def CD (l : Launch) (D : va_G) (cF cI : ClassId) (y : MethodName) (cd : Cond) (as : List Value) (W : va_W) (v : UInt64) (P : va_W → Prop) : Prop :=
  ∃ (S : Type) (w : S → va_W) (fr lo : Nat), fr ≤ 7 ∧ lo ≤ 200 ∧ (∀ u, P (w u)) ∧ ∀ sz : Nat, Met l y (cd :: TB) (RM fr 0 0 lo) (va_Pc as (cPre D cF cI W sz)) (va_Qd (fun r (_ : S) => r = v) (cB D cF cI (va_A W sz) w) (va_A W sz)) 0 0 (va_A W sz)
def XI (l : Launch) (D : va_G) (cF cI : ClassId) (y : MethodName) (cd : Cond) (as : List Value) (W : va_W) (E : String) (W1 : va_W) : Prop :=
  ∃ (fr lo : Nat), fr ≤ 7 ∧ lo ≤ 200 ∧ ∀ sz : Nat, vx_Met l y (cd :: TB) (RM fr 1 6 lo) (va_Pc as (cPreX D cF cI W sz)) (va_Qi (fun _ (_ : Unit) => False) (fun _ _ => True) (va_A W sz)) (vx_X (fun _ : Unit => True) (xB D cF cI (va_A W sz) E W1) (va_A W sz)) 1 6 (va_A W sz)
def XD (l : Launch) (D : va_G) (cF cI : ClassId) (y : MethodName) (cd : Cond) (as : List Value) (W : va_W) (E : String) (W1 : va_W) : Prop :=
  ∃ (fr lo : Nat), fr ≤ 7 ∧ lo ≤ 200 ∧ ∀ sz : Nat, vx_Met l y (cd :: TB) (RM fr 1 6 lo) (va_Pc as (cPreX D cF cI W sz)) (va_Qd (fun _ (_ : Unit) => False) (fun _ _ => True) (va_A W sz)) (vx_X (fun _ : Unit => True) (xB D cF cI (va_A W sz) E W1) (va_A W sz)) 1 6 (va_A W sz)
section Mk
variable {l : Launch} {D : va_G} {cF cI : ClassId} {y : MethodName} {cd : Cond} {as : List Value} {W : va_W} {fr lo : Nat}
theorem CI_of {S : Type} {v : Int32} {P : va_W → Prop} {w w' : S → va_W} (wr wc : va_W) (is is2 : List Nat) (h : ∀ sz : Nat, Met l y (cd :: TB) (RM fr 0 0 lo) (va_Pc as (cPre D cF cI wc sz)) (va_Qi (fun r (_ : S) => r = v) (cB D cF cI (va_A wc sz) w) (va_A wc sz)) 0 0 (va_A wc sz))
    (hf : fr ≤ 7) (hlo : lo ≤ 200) (n : Nat) (hn1 : W.length = n) (hp1 : is.isPerm (List.range n) = true) (hs1 : is.map (fun i => W[i]?) = (wr ++ wc).map some) (hn2 : ∀ u, (wr ++ w u).length = n) (hp2 : is2.isPerm (List.range n) = true) (hs2 : ∀ u, is2.map (fun i => (wr ++ w u)[i]?) = (w' u).map some) (hP : ∀ u, P (w' u)) : CI l D cF cI y cd as W v P :=
  ⟨S, w', fr, lo, hf, hlo, hP, fun sz => met_i (perm_idx is n hn1 hp1 hs1) (fun u => perm_idx is2 n (hn2 u) hp2 (hs2 u)) (h sz)⟩
theorem CD_of {S : Type} {v : UInt64} {P : va_W → Prop} {w w' : S → va_W} (wr wc : va_W) (is is2 : List Nat) (h : ∀ sz : Nat, Met l y (cd :: TB) (RM fr 0 0 lo) (va_Pc as (cPre D cF cI wc sz)) (va_Qd (fun r (_ : S) => r = v) (cB D cF cI (va_A wc sz) w) (va_A wc sz)) 0 0 (va_A wc sz))
    (hf : fr ≤ 7) (hlo : lo ≤ 200) (n : Nat) (hn1 : W.length = n) (hp1 : is.isPerm (List.range n) = true) (hs1 : is.map (fun i => W[i]?) = (wr ++ wc).map some) (hn2 : ∀ u, (wr ++ w u).length = n) (hp2 : is2.isPerm (List.range n) = true) (hs2 : ∀ u, is2.map (fun i => (wr ++ w u)[i]?) = (w' u).map some) (hP : ∀ u, P (w' u)) : CD l D cF cI y cd as W v P :=
  ⟨S, w', fr, lo, hf, hlo, hP, fun sz => met_d (perm_idx is n hn1 hp1 hs1) (fun u => perm_idx is2 n (hn2 u) hp2 (hs2 u)) (h sz)⟩
theorem XI_of {E : String} {w1 W1 : va_W} (wr wc : va_W) (is is2 : List Nat) (h : ∀ sz : Nat, vx_Met l y (cd :: TB) (RM fr 1 6 lo) (va_Pc as (cPreX D cF cI wc sz)) (va_Qi (fun _ (_ : Unit) => False) (fun _ _ => True) (va_A wc sz)) (vx_X (fun _ : Unit => True) (xB D cF cI (va_A wc sz) E w1) (va_A wc sz)) 1 6 (va_A wc sz))
    (hf : fr ≤ 7) (hlo : lo ≤ 200) (n : Nat) (hn1 : W.length = n) (hp1 : is.isPerm (List.range n) = true) (hs1 : is.map (fun i => W[i]?) = (wr ++ wc).map some) (hn2 : (wr ++ w1).length = n) (hp2 : is2.isPerm (List.range n) = true) (hs2 : is2.map (fun i => (wr ++ w1)[i]?) = W1.map some) : XI l D cF cI y cd as W E W1 :=
  ⟨fr, lo, hf, hlo, fun sz => met_x qn_i (perm_idx is n hn1 hp1 hs1) (perm_idx is2 n hn2 hp2 hs2) (h sz)⟩
theorem XD_of {E : String} {w1 W1 : va_W} (wr wc : va_W) (is is2 : List Nat) (h : ∀ sz : Nat, vx_Met l y (cd :: TB) (RM fr 1 6 lo) (va_Pc as (cPreX D cF cI wc sz)) (va_Qd (fun _ (_ : Unit) => False) (fun _ _ => True) (va_A wc sz)) (vx_X (fun _ : Unit => True) (xB D cF cI (va_A wc sz) E w1) (va_A wc sz)) 1 6 (va_A wc sz))
    (hf : fr ≤ 7) (hlo : lo ≤ 200) (n : Nat) (hn1 : W.length = n) (hp1 : is.isPerm (List.range n) = true) (hs1 : is.map (fun i => W[i]?) = (wr ++ wc).map some) (hn2 : (wr ++ w1).length = n) (hp2 : is2.isPerm (List.range n) = true) (hs2 : is2.map (fun i => (wr ++ w1)[i]?) = W1.map some) : XD l D cF cI y cd as W E W1 :=
  ⟨fr, lo, hf, hlo, fun sz => met_x qn_d (perm_idx is n hn1 hp1 hs1) (perm_idx is2 n hn2 hp2 hs2) (h sz)⟩
end Mk
abbrev TYS4 (cF cI cJ cD : ClassId) : List (ClassId × FieldType) := [(cF, .float), (cI, .int), (cJ, .long), (cD, .double)]
def hPre (D : va_G) (cF cI cJ cD : ClassId) (ws : va_W) (sz : Nat) (U : State) : Prop := cPreX D cF cI ws sz U ∧ va_K D vwCl (TYS4 cF cI cJ cD) U
theorem hPre_blind {D : va_G} {cF cI cJ cD : ClassId} {ws : va_W} {sz : Nat} {as : List Value} : FrameBlind (va_Pc as (hPre D cF cI cJ cD ws sz)) := fun a U g mk q => by
  obtain ⟨q0, q1, q2⟩ := q
  exact ⟨q0, (cPreX_blind (as := as) a U g mk ⟨q0, q1⟩).2, va_K.moved (u := U) (U := U.calling g mk a) (Vm.Alike.refl U.vm) q2⟩
abbrev ZU (A : Nat → Prop) (s : State) (H : Heap) : Prop := vx_Zq Bundle.tN "UNASSIGNED_STACK" Bundle.steD A s H ∧ vx_Zq Bundle.tN "SUPPRESSED_SENTINEL" Bundle.listD A s H
section HBase
variable {p : Program} {l : Launch} {e : Env} {R : Room} {s : State} {m : MethodId} {args : Array Value} {below : List Frame} {meth : Method} {c : Code} {H : Heap} {locs : List Loc} {cells slots : Nat} {Q : State → Prop}
variable {D : va_G} {cF cI cJ cD : ClassId} {A A0 : Nat → Prop} {cc : ByteArray} {pc : Nat} {ls : Array Slot} {H0 : Heap} {st0 rest : List Value} {mc ms : Nat} {a : Array Value} {wc wr : va_W}
theorem xPre_V {as : List Value} {b q0 ci : Nat} {q : vw_C} {fs : List Value} (hK : va_K D vwCl (TYS cF cI) s) (hm : AMB s) (hmx : AMX s) (hZ : ZU A s s.heap) (hS : va_S A s.heap H locs) (hF : ∀ q, va_A wc H.size q → A q) (hP : va_P D vwCl wc H) (hD : va_D A0 wc) (hc : vwCl[ci]? = some q) (he : wc[q0]? = some (b, .inr (ci, fs))) :
    PreV s H q.1 b (va_Pc (.ref b :: as) (cPreX D cF cI wc H.size)) as :=
  ⟨cPreX_blind, va_recv hK hP hc he, fun U hU hW => ⟨rfl, ((cPre_S (as := .ref b :: as) hK hm hP hD).2 U hU hW).2, by rw [hU]; exact vx_Zq.moved hW.alike ((hZ.1.kept hS.2.1).narrow hF), by rw [hU]; exact vx_Zq.moved hW.alike ((hZ.2.kept hS.2.1).narrow hF), hmx.warm hW⟩⟩
theorem hPre_S {as : List Value} (hK : va_K D vwCl (TYS4 cF cI cJ cD) s) (hm : AMB s) (hmx : AMX s) (hZ : ZU A s s.heap) (hS : va_S A s.heap H locs) (hF : ∀ q, va_A wc H.size q → A q) (hP : va_P D vwCl wc H) (hD : va_D A0 wc) : PreS s H (va_Pc as (hPre D cF cI cJ cD wc H.size)) as :=
  ⟨hPre_blind, fun U hU hW => ⟨rfl, ⟨((cPre_S (as := as) (hK.sub [0, 1] rfl) hm hP hD).2 U hU hW).2, by rw [hU]; exact vx_Zq.moved hW.alike ((hZ.1.kept hS.2.1).narrow hF), by rw [hU]; exact vx_Zq.moved hW.alike ((hZ.2.kept hS.2.1).narrow hF), hmx.warm hW⟩, va_K.moved hW.alike hK⟩⟩
theorem h_ofW {y : MethodName} {own : String} {maxL : Nat} {ret : Option FieldType} {hh : List (Nat × Nat × Nat × Nat)} {rm : Room} {as : List Value} {ws : va_W} {sz : Nat} {Qc : Array Value → State → Outcome → State → Prop} {free : Addr → Prop}
    (hy : plainName y.cls = true) (hyc : y.cls = own)
    (body : ∀ (p : Program) (e : Env) (s : State) (m : MethodId) (below : List Frame) (meth : Method) (c : Code), s.heap.size = sz → p.tables.exec = Jvm.exec → c.code = cc → meth.sig.returnType = ret → c.maxLocals = maxL → s.vm.findClass own = some m.cls →
      (∀ w ∈ TB, w.before as.toArray s = true) → meth.locks = false → va_P D vwCl ws s.heap → va_K D vwCl (TYS4 cF cI cJ cD) s → va_D (va_A ws s.heap.size) ws → AMB s →
      c.exceptionTable.toList = tableOf hh → ZU (va_A ws s.heap.size) s s.heap → AMX s →
      W p l e rm s m as.toArray below meth c s.heap [] 0 0 (MQ below Qc as.toArray s mc ms free) (entryFrame m as.toArray maxL)) :
    Met l y (.codeWith y cc maxL ret hh :: TB) rm (va_Pc as (hPre D cF cI cJ cD ws sz)) Qc mc ms free := by
  refine va_MetW (cc := cc) (maxL := maxL) (ret := ret) (hh := hh) hy rfl ?_
  intro p e s m args below meth c s₁ B hml hv
  obtain ⟨rfl, ⟨⟨hsz, hP, hK, hD, hA⟩, hU, hN, hmx⟩, hK4⟩ := hv
  have hts := atoms_spec (ws := Cond.codeWith y cc maxL ret hh :: TB) B.pre
  subst hsz
  exact body p e s m below meth c rfl B.exec B.bytes B.returns hml (hyc ▸ findClass_of_methodNamed B.named) (fun w h => hts w (List.mem_cons_of_mem _ h)) B.notSynchronized hP hK4 hD.self hA (vx_table (x := y) B (hts _ List.mem_cons_self)) ⟨hU, hN⟩ hmx
theorem qa_i {S : Type} {post : Int32 → S → Prop} {w : S → va_W} (hP : va_P D vwCl (wr ++ wc) H) (hD : va_D A0 (wr ++ wc)) (hS : va_S A0 H0 H locs) (hA : ∀ q, H0.size ≤ q → A0 q)
    (hr : va_Run p l e R s m args below meth c H locs cells slots mc ms (F0 m pc ls st0) rest (va_Qi post (cB D cF cI (va_A wc H.size) w) (va_A wc H.size) a) (va_A wc H.size))
    (kk : ∀ (r : Int32) (u : S) (H1 : Heap) (locs1 : List Loc), post r u → va_P D vwCl (wr ++ w u) H1 → va_D A0 (wr ++ w u) → va_S A0 H0 H1 locs1 → W p l e R s m args below meth c H1 locs1 (cells + mc) (slots + ms) Q (F0 m (pc + 3) ls (.int r :: rest))) : W p l e R s m args below meth c H locs cells slots Q (F0 m pc ls st0) := by
  have hF := freeA hD hS hA
  refine va_calli hr hS (fun q _ h => hF q h) hF (fun r u t H1 locs1 ht hvm hw hB hz hk hS1 => ?_)
  obtain ⟨hP1, hK1, hD1⟩ := hB
  rw [ht] at hP1
  obtain ⟨hP2, hD2⟩ := joinA hP hD (wD_left hD) hk hF hP1 hD1
  exact kk r u H1 locs1 hw hP2 hD2 hS1
theorem qa_d {S : Type} {post : UInt64 → S → Prop} {w : S → va_W} (hP : va_P D vwCl (wr ++ wc) H) (hD : va_D A0 (wr ++ wc)) (hS : va_S A0 H0 H locs) (hA : ∀ q, H0.size ≤ q → A0 q)
    (hr : va_Run p l e R s m args below meth c H locs cells slots mc ms (F0 m pc ls st0) rest (va_Qd post (cB D cF cI (va_A wc H.size) w) (va_A wc H.size) a) (va_A wc H.size))
    (kk : ∀ (r : UInt64) (u : S) (H1 : Heap) (locs1 : List Loc), post r u → va_P D vwCl (wr ++ w u) H1 → va_D A0 (wr ++ w u) → va_S A0 H0 H1 locs1 → W p l e R s m args below meth c H1 locs1 (cells + mc) (slots + ms) Q (F0 m (pc + 3) ls (.double r :: rest))) : W p l e R s m args below meth c H locs cells slots Q (F0 m pc ls st0) := by
  have hF := freeA hD hS hA
  refine va_calld hr hS (fun q _ h => hF q h) hF (fun r u t H1 locs1 ht hvm hw hB hz hk hS1 => ?_)
  obtain ⟨hP1, hK1, hD1⟩ := hB
  rw [ht] at hP1
  obtain ⟨hP2, hD2⟩ := joinA hP hD (wD_left hD) hk hF hP1 hD1
  exact kk r u H1 locs1 hw hP2 hD2 hS1
theorem qx_i {E0 : String} {w1 : va_W} (hP : va_P D vwCl (wr ++ wc) H) (hD : va_D A0 (wr ++ wc)) (hS : va_S A0 H0 H locs) (hA : ∀ q, H0.size ≤ q → A0 q)
    (hr : vx_Run p l e R s m args below meth c H locs cells slots mc ms (F0 m pc ls st0) rest (va_Qi (fun _ (_ : Unit) => False) (fun _ _ => True) (va_A wc H.size) a) (vx_X (fun _ : Unit => True) (xB D cF cI (va_A wc H.size) E0 w1) (va_A wc H.size)) (va_A wc H.size))
    (kx : ∀ (ce : Cell) (q9 : Addr) (H1 : Heap) (locs1 : List Loc), va_P D vwCl (wr ++ w1) H1 → va_D A0 (wr ++ w1) → va_S A0 H0 H1 locs1 → H1[q9]? = some ce → ce.vm = .none → s.vm.findClass E0 = some ce.cls → vx_W p l e R s m args below meth c H1 locs1 (cells + mc) (slots + ms) Q (F0 m pc ls rest) q9) : W p l e R s m args below meth c H locs cells slots Q (F0 m pc ls st0) := by
  have hF := freeA hD hS hA
  refine vx_calli hr hS (fun q _ h => hF q h) hF (fun q _ h => hF q h) (fun E ce q9 u t H1 locs1 ht hvm hpx hB hz hk hS1 hc hv hcl => ?_) (fun r u t H1 locs1 ht hvm hw => hw.elim)
  obtain ⟨rfl, hP1, hK1, hD1⟩ := hB
  rw [ht] at hP1
  obtain ⟨hP2, hD2⟩ := joinA hP hD (wD_left hD) hk hF hP1 hD1
  exact kx ce q9 H1 locs1 hP2 hD2 hS1 hc hv hcl
theorem qx_d {E0 : String} {w1 : va_W} (hP : va_P D vwCl (wr ++ wc) H) (hD : va_D A0 (wr ++ wc)) (hS : va_S A0 H0 H locs) (hA : ∀ q, H0.size ≤ q → A0 q)
    (hr : vx_Run p l e R s m args below meth c H locs cells slots mc ms (F0 m pc ls st0) rest (va_Qd (fun _ (_ : Unit) => False) (fun _ _ => True) (va_A wc H.size) a) (vx_X (fun _ : Unit => True) (xB D cF cI (va_A wc H.size) E0 w1) (va_A wc H.size)) (va_A wc H.size))
    (kx : ∀ (ce : Cell) (q9 : Addr) (H1 : Heap) (locs1 : List Loc), va_P D vwCl (wr ++ w1) H1 → va_D A0 (wr ++ w1) → va_S A0 H0 H1 locs1 → H1[q9]? = some ce → ce.vm = .none → s.vm.findClass E0 = some ce.cls → vx_W p l e R s m args below meth c H1 locs1 (cells + mc) (slots + ms) Q (F0 m pc ls rest) q9) : W p l e R s m args below meth c H locs cells slots Q (F0 m pc ls st0) := by
  have hF := freeA hD hS hA
  refine vx_calld hr hS (fun q _ h => hF q h) hF (fun q _ h => hF q h) (fun E ce q9 u t H1 locs1 ht hvm hpx hB hz hk hS1 hc hv hcl => ?_) (fun r u t H1 locs1 ht hvm hw => hw.elim)
  obtain ⟨rfl, hP1, hK1, hD1⟩ := hB
  rw [ht] at hP1
  obtain ⟨hP2, hD2⟩ := joinA hP hD (wD_left hD) hk hF hP1 hD1
  exact kx ce q9 H1 locs1 hP2 hD2 hS1 hc hv hcl
theorem g_SW {own : String} {idx : Nat} {y : MethodName} {bs : ByteArray} {mL : Nat} {rt : Option FieldType} {hh : List (Nat × Nat × Nat × Nat)} (h1 : Cond.methodLink own idx y ∈ TB) (h2 : Cond.static y ∈ TB) (h4 : Cond.initialized y.cls ∈ TB) (h5 : Cond.codeWith y bs mL rt hh ∈ TB) :
    GoodIn TB (va_wsS own idx y (Cond.codeWith y bs mL rt hh :: TB)) := by
  intro w hw
  have hm : w ∈ TB := by
    simp only [va_wsS, List.cons_append, List.nil_append, List.mem_cons] at hw
    rcases hw with rfl | rfl | rfl | rfl | hw
    · exact h1
    · exact h2
    · exact h4
    · exact h5
    · exact hw
  exact ⟨hm, tb_good hm⟩
end HBase
/-- a helper: it answers k; where k is 0, the array o has the answer v -/
def HJ (l : Launch) (D : va_G) (cF cI cJ cD : ClassId) (y : MethodName) (cd : Cond) (as : List Value) (W : va_W) (o : Nat) (f : Nat → Int64) (k v : Int32) (P : va_W → Prop) : Prop :=
  ∃ (S : Type) (w : S → va_W) (fr mc ms lo : Nat), fr ≤ 8 ∧ mc ≤ 1 ∧ ms ≤ 6 ∧ lo ≤ 250 ∧ (∀ u, ∃ (f1 : Nat → Int64) (W1 : va_W), P W1 ∧ (k = 0 → f1 0 = v.toInt64) ∧ w u = (o, .inl (cJ, 1, .inr (.inl f1))) :: W1) ∧
    ∀ sz : Nat, Met l y (cd :: TB) (RM fr mc ms lo) (va_Pc as (hPre D cF cI cJ cD ((o, .inl (cJ, 1, .inr (.inl f))) :: W) sz)) (va_Qi (fun r (_ : S) => r = k) (cB D cF cI (va_A ((o, .inl (cJ, 1, .inr (.inl f))) :: W) sz) w) (va_A ((o, .inl (cJ, 1, .inr (.inl f))) :: W) sz)) mc ms (va_A ((o, .inl (cJ, 1, .inr (.inl f))) :: W) sz)
def HD (l : Launch) (D : va_G) (cF cI cJ cD : ClassId) (y : MethodName) (cd : Cond) (as : List Value) (W : va_W) (o : Nat) (f : Nat → UInt64) (k : Int32) (v : UInt64) (P : va_W → Prop) : Prop :=
  ∃ (S : Type) (w : S → va_W) (fr mc ms lo : Nat), fr ≤ 8 ∧ mc ≤ 1 ∧ ms ≤ 6 ∧ lo ≤ 250 ∧ (∀ u, ∃ (f1 : Nat → UInt64) (W1 : va_W), P W1 ∧ (k = 0 → f1 0 = v) ∧ w u = (o, .inl (cD, 1, .inr (.inr (.inr (.inl f1))))) :: W1) ∧
    ∀ sz : Nat, Met l y (cd :: TB) (RM fr mc ms lo) (va_Pc as (hPre D cF cI cJ cD ((o, .inl (cD, 1, .inr (.inr (.inr (.inl f))))) :: W) sz)) (va_Qi (fun r (_ : S) => r = k) (cB D cF cI (va_A ((o, .inl (cD, 1, .inr (.inr (.inr (.inl f))))) :: W) sz) w) (va_A ((o, .inl (cD, 1, .inr (.inr (.inr (.inl f))))) :: W) sz)) mc ms (va_A ((o, .inl (cD, 1, .inr (.inr (.inr (.inl f))))) :: W) sz)
set_option maxRecDepth 100000 in
theorem h_sample_R {l : Launch} {D : va_G} {cF cI cJ cD : ClassId} {W : va_W} {x0 : Nat} {fs : List Value} {v : Int32} {P : va_W → Prop} (d : UInt64) (hr : W[0]? = some (x0, .inr (5, fs))) (hC : CI l D cF cI yVF_sample (.code yVF_sample cVF_sample 4 (some .int)) [.ref x0, .double d] W v P) (o : Nat) (f : Nat → Int64) : HJ l D cF cI cJ cD yLaw_sample (.codeWith yLaw_sample cLaw_sample 5 (some .int) [(0, 9, 12, 13), (0, 9, 16, 15)]) [.ref x0, .double d, .ref o] W o f 0 v P := by
  obtain ⟨S, w, fr, lo, hfr, hlo, hPw, hM⟩ := hC
  refine ⟨S, fun u => (o, .inl (cJ, 1, .inr (.inl (vp_updL f 0 v.toInt64)))) :: w u, fr + 1, 0, 0, lo + 30, by omega, by omega, by omega, by omega, fun u => ⟨_, _, hPw u, fun _ => if_pos rfl, rfl⟩, fun sz => ?_⟩
  refine h_ofW (own := RLaw) (by decide) rfl (fun p e s m below meth c hsz hx hb hr0 hml hown ht hlk hP hK hD hmb hex hZ hmx => ?_)
  subst hsz
  generalize hAe : va_A ((o, .inl (cJ, 1, .inr (.inl f))) :: W) s.heap.size = A at hD hZ ⊢
  have hA : ∀ q : Nat, s.heap.size ≤ q → A q := fun q h => by rw [← hAe]; exact Or.inr h
  have hS : va_S A s.heap s.heap [] := va_S.rf
  have hl := lv_entry ([.ref x0, .double d, .ref o]) (n := 5) (Nat.le_of_ble_eq_true rfl)
  rw [lg_entry_eq]
  generalize (lg_sl ([.ref x0, .double d, .ref o]) ++ List.replicate (5 - (lg_sl ([.ref x0, .double d, .ref o])).length) Slot.unset).toArray = ls at hl ⊢
  have hl : lv_has ls 5 [(0, .ref x0), (1, .double d), (3, .ref o)] := hl
  refine lv_aload_n hx hb dLaw_sample_0 rfl (lv_at hl 2 rfl) ?_
  refine lv_iconst (v := 0) hx hb dLaw_sample_1 (by decide) ?_
  refine lv_aload_n hx hb dLaw_sample_2 rfl (lv_at hl 0 rfl) ?_
  refine lv_dload_n hx hb dLaw_sample_3 rfl (lv_at hl 1 rfl) ?_
  refine qa_i (wr := [(o, .inl (cJ, 1, .inr (.inl f)))]) (wc := W) hP hD hS hA (va_runV (As := [.double d]) (rest := [.int 0, .ref o]) ⟨hx, hb, hml, hown, ht⟩ (hM s.heap.size) (cwV 1 ht (g_V km_Law_7 ki_VF_sample kv_VF_sample kI_VF kc_VF_sample) rfl rfl rfl (by decide +kernel) ⟨Nat.le_refl (fr + 1), (by show 8 + (4 + 11) + lo ≤ lo + 30; omega)⟩) (cPre_V (ci := 5) (q0 := 0) (hK.sub [0, 1] rfl) hmb (wP_right (w1 := [(o, .inl (cJ, 1, .inr (.inl f)))]) hP) (wD_right (w1 := [(o, .inl (cJ, 1, .inr (.inl f)))]) hD) rfl hr) rfl rfl hl.1 rfl (lv_room (Nat.le_of_ble_eq_true rfl)) dLaw_sample_4 ⟨Nat.le_refl _, Nat.le_refl _⟩) (fun r u H locs hw hP hD hS => ?_)
  subst hw
  refine lv_i2l hx hb dLaw_sample_7 rfl ?_
  refine va_last hx hb hK hP hD hS 0 2 rfl rfl (by unfold vp_in; decide) dLaw_sample_8 (fun H locs hP hD hS => ?_)
  refine lv_goto (tgt := 20) hx hb dLaw_sample_9 (by decide) ?_
  refine lv_iconst (v := 0) hx hb dLaw_sample_20 (by decide) ?_
  exact e_i u hx hb hr0 hlk (hK.sub [0, 1] rfl) hP hD hS rfl rfl dLaw_sample_21
set_option maxRecDepth 100000 in
theorem h_sample_1 {l : Launch} {D : va_G} {cF cI cJ cD : ClassId} {W W1 : va_W} {x0 : Nat} {fs : List Value} (d : UInt64) (hr : W[0]? = some (x0, .inr (5, fs))) (hC : XI l D cF cI yVF_sample (.code yVF_sample cVF_sample 4 (some .int)) [.ref x0, .double d] W "java/lang/IllegalArgumentException" W1) (o : Nat) (f : Nat → Int64) (v : Int32) : HJ l D cF cI cJ cD yLaw_sample (.codeWith yLaw_sample cLaw_sample 5 (some .int) [(0, 9, 12, 13), (0, 9, 16, 15)]) [.ref x0, .double d, .ref o] W o f 1 v (fun z => z = W1) := by
  obtain ⟨fr, lo, hfr, hlo, hM⟩ := hC
  refine ⟨Unit, fun _ => (o, .inl (cJ, 1, .inr (.inl f))) :: W1, fr + 1, 1, 6, lo + 30, by omega, by omega, by omega, by omega, fun u => ⟨_, _, rfl, fun h => absurd h (by decide), rfl⟩, fun sz => ?_⟩
  refine h_ofW (own := RLaw) (by decide) rfl (fun p e s m below meth c hsz hx hb hr0 hml hown ht hlk hP hK hD hmb hex hZ hmx => ?_)
  subst hsz
  generalize hAe : va_A ((o, .inl (cJ, 1, .inr (.inl f))) :: W) s.heap.size = A at hD hZ ⊢
  have hA : ∀ q : Nat, s.heap.size ≤ q → A q := fun q h => by rw [← hAe]; exact Or.inr h
  have hS : va_S A s.heap s.heap [] := va_S.rf
  have hl := lv_entry ([.ref x0, .double d, .ref o]) (n := 5) (Nat.le_of_ble_eq_true rfl)
  rw [lg_entry_eq]
  generalize (lg_sl ([.ref x0, .double d, .ref o]) ++ List.replicate (5 - (lg_sl ([.ref x0, .double d, .ref o])).length) Slot.unset).toArray = ls at hl ⊢
  have hl : lv_has ls 5 [(0, .ref x0), (1, .double d), (3, .ref o)] := hl
  refine lv_aload_n hx hb dLaw_sample_0 rfl (lv_at hl 2 rfl) ?_
  refine lv_iconst (v := 0) hx hb dLaw_sample_1 (by decide) ?_
  refine lv_aload_n hx hb dLaw_sample_2 rfl (lv_at hl 0 rfl) ?_
  refine lv_dload_n hx hb dLaw_sample_3 rfl (lv_at hl 1 rfl) ?_
  have hF := freeA (wr := [(o, .inl (cJ, 1, .inr (.inl f)))]) (wc := W) hD hS hA
  refine qx_i (wr := [(o, .inl (cJ, 1, .inr (.inl f)))]) (wc := W) hP hD hS hA (vx_runV (As := [.double d]) (rest := [.int 0, .ref o]) ⟨hx, hb, hml, hown, ht⟩ (hM s.heap.size) (cwV 1 ht (g_V km_Law_7 ki_VF_sample kv_VF_sample kI_VF kc_VF_sample) rfl rfl rfl (by decide +kernel) ⟨Nat.le_refl (fr + 1), (by show 8 + (4 + 11) + lo ≤ lo + 30; omega)⟩) (xPre_V (ci := 5) (q0 := 0) (hK.sub [0, 1] rfl) hmb hmx hZ hS hF (wP_right (w1 := [(o, .inl (cJ, 1, .inr (.inl f)))]) hP) (wD_right (w1 := [(o, .inl (cJ, 1, .inr (.inl f)))]) hD) rfl hr) rfl rfl hl.1 rfl (lv_room (Nat.le_of_ble_eq_true rfl)) dLaw_sample_4 ⟨Nat.le_refl _, Nat.le_refl _⟩) (fun ce q9 H locs hP hD hS hc9 hv9 hcl9 => ?_)
  refine vx_catch (own := RLaw) (name := "java/lang/IllegalArgumentException") (E := "java/lang/IllegalArgumentException") hown [] ⟨0, 9, 12, 13⟩ [⟨0, 9, 16, 15⟩] hex (fun z hz => nomatch hz) rfl (by decide) (ht _ kl_Law_13) (va_Nw.use rfl (hmx.1 _ (List.mem_of_getElem? (i := 3) rfl))) hc9 hv9 hcl9 ?_
  refine lv_astore (lv' := [(4, .ref q9), (0, .ref x0), (1, .double d), (3, .ref o)]) hx hb dLaw_sample_12 hl (by decide) rfl (fun ls hl => ?_)
  refine lv_iconst (v := 1) hx hb dLaw_sample_14 (by decide) ?_
  exact e_i () hx hb hr0 hlk (hK.sub [0, 1] rfl) hP hD hS rfl rfl dLaw_sample_15
set_option maxRecDepth 100000 in
theorem h_sample_2 {l : Launch} {D : va_G} {cF cI cJ cD : ClassId} {W W1 : va_W} {x0 : Nat} {fs : List Value} (d : UInt64) (hr : W[0]? = some (x0, .inr (5, fs))) (hC : XI l D cF cI yVF_sample (.code yVF_sample cVF_sample 4 (some .int)) [.ref x0, .double d] W "java/lang/IllegalStateException" W1) (o : Nat) (f : Nat → Int64) (v : Int32) : HJ l D cF cI cJ cD yLaw_sample (.codeWith yLaw_sample cLaw_sample 5 (some .int) [(0, 9, 12, 13), (0, 9, 16, 15)]) [.ref x0, .double d, .ref o] W o f 2 v (fun z => z = W1) := by
  obtain ⟨fr, lo, hfr, hlo, hM⟩ := hC
  refine ⟨Unit, fun _ => (o, .inl (cJ, 1, .inr (.inl f))) :: W1, fr + 1, 1, 6, lo + 30, by omega, by omega, by omega, by omega, fun u => ⟨_, _, rfl, fun h => absurd h (by decide), rfl⟩, fun sz => ?_⟩
  refine h_ofW (own := RLaw) (by decide) rfl (fun p e s m below meth c hsz hx hb hr0 hml hown ht hlk hP hK hD hmb hex hZ hmx => ?_)
  subst hsz
  generalize hAe : va_A ((o, .inl (cJ, 1, .inr (.inl f))) :: W) s.heap.size = A at hD hZ ⊢
  have hA : ∀ q : Nat, s.heap.size ≤ q → A q := fun q h => by rw [← hAe]; exact Or.inr h
  have hS : va_S A s.heap s.heap [] := va_S.rf
  have hl := lv_entry ([.ref x0, .double d, .ref o]) (n := 5) (Nat.le_of_ble_eq_true rfl)
  rw [lg_entry_eq]
  generalize (lg_sl ([.ref x0, .double d, .ref o]) ++ List.replicate (5 - (lg_sl ([.ref x0, .double d, .ref o])).length) Slot.unset).toArray = ls at hl ⊢
  have hl : lv_has ls 5 [(0, .ref x0), (1, .double d), (3, .ref o)] := hl
  refine lv_aload_n hx hb dLaw_sample_0 rfl (lv_at hl 2 rfl) ?_
  refine lv_iconst (v := 0) hx hb dLaw_sample_1 (by decide) ?_
  refine lv_aload_n hx hb dLaw_sample_2 rfl (lv_at hl 0 rfl) ?_
  refine lv_dload_n hx hb dLaw_sample_3 rfl (lv_at hl 1 rfl) ?_
  have hF := freeA (wr := [(o, .inl (cJ, 1, .inr (.inl f)))]) (wc := W) hD hS hA
  refine qx_i (wr := [(o, .inl (cJ, 1, .inr (.inl f)))]) (wc := W) hP hD hS hA (vx_runV (As := [.double d]) (rest := [.int 0, .ref o]) ⟨hx, hb, hml, hown, ht⟩ (hM s.heap.size) (cwV 1 ht (g_V km_Law_7 ki_VF_sample kv_VF_sample kI_VF kc_VF_sample) rfl rfl rfl (by decide +kernel) ⟨Nat.le_refl (fr + 1), (by show 8 + (4 + 11) + lo ≤ lo + 30; omega)⟩) (xPre_V (ci := 5) (q0 := 0) (hK.sub [0, 1] rfl) hmb hmx hZ hS hF (wP_right (w1 := [(o, .inl (cJ, 1, .inr (.inl f)))]) hP) (wD_right (w1 := [(o, .inl (cJ, 1, .inr (.inl f)))]) hD) rfl hr) rfl rfl hl.1 rfl (lv_room (Nat.le_of_ble_eq_true rfl)) dLaw_sample_4 ⟨Nat.le_refl _, Nat.le_refl _⟩) (fun ce q9 H locs hP hD hS hc9 hv9 hcl9 => ?_)
  refine vx_catch (own := RLaw) (name := "java/lang/IllegalStateException") (E := "java/lang/IllegalStateException") hown [⟨0, 9, 12, 13⟩] ⟨0, 9, 16, 15⟩ [] hex (fun z hz => by rcases List.mem_singleton.mp hz with rfl; exact Or.inr ⟨by decide, "java/lang/IllegalArgumentException", ht _ kl_Law_13, hmx.2 _ (List.mem_of_getElem? (i := 0) rfl)⟩) rfl (by decide) (ht _ kl_Law_15) (va_Nw.use rfl (hmx.1 _ (List.mem_of_getElem? (i := 4) rfl))) hc9 hv9 hcl9 ?_
  refine lv_astore (lv' := [(4, .ref q9), (0, .ref x0), (1, .double d), (3, .ref o)]) hx hb dLaw_sample_16 hl (by decide) rfl (fun ls hl => ?_)
  refine lv_iconst (v := 2) hx hb dLaw_sample_18 (by decide) ?_
  exact e_i () hx hb hr0 hlk (hK.sub [0, 1] rfl) hP hD hS rfl rfl dLaw_sample_19
set_option maxRecDepth 100000 in
theorem h_encode_R {l : Launch} {D : va_G} {cF cI cJ cD : ClassId} {W : va_W} {x0 : Nat} {fs : List Value} {v : Int32} {P : va_W → Prop} (hr : W[0]? = some (x0, .inr (5, fs))) (hC : CI l D cF cI yVF_encode (.code yVF_encode cVF_encode 2 (some .int)) [.ref x0] W v P) (o : Nat) (f : Nat → Int64) : HJ l D cF cI cJ cD yLaw_encode (.codeWith yLaw_encode cLaw_encode 3 (some .int) [(0, 8, 11, 15), (0, 8, 14, 21)]) [.ref x0, .ref o] W o f 0 v P := by
  obtain ⟨S, w, fr, lo, hfr, hlo, hPw, hM⟩ := hC
  refine ⟨S, fun u => (o, .inl (cJ, 1, .inr (.inl (vp_updL f 0 v.toInt64)))) :: w u, fr + 1, 0, 0, lo + 30, by omega, by omega, by omega, by omega, fun u => ⟨_, _, hPw u, fun _ => if_pos rfl, rfl⟩, fun sz => ?_⟩
  refine h_ofW (own := RLaw) (by decide) rfl (fun p e s m below meth c hsz hx hb hr0 hml hown ht hlk hP hK hD hmb hex hZ hmx => ?_)
  subst hsz
  generalize hAe : va_A ((o, .inl (cJ, 1, .inr (.inl f))) :: W) s.heap.size = A at hD hZ ⊢
  have hA : ∀ q : Nat, s.heap.size ≤ q → A q := fun q h => by rw [← hAe]; exact Or.inr h
  have hS : va_S A s.heap s.heap [] := va_S.rf
  have hl := lv_entry ([.ref x0, .ref o]) (n := 3) (Nat.le_of_ble_eq_true rfl)
  rw [lg_entry_eq]
  generalize (lg_sl ([.ref x0, .ref o]) ++ List.replicate (3 - (lg_sl ([.ref x0, .ref o])).length) Slot.unset).toArray = ls at hl ⊢
  have hl : lv_has ls 3 [(0, .ref x0), (1, .ref o)] := hl
  refine lv_aload_n hx hb dLaw_encode_0 rfl (lv_at hl 1 rfl) ?_
  refine lv_iconst (v := 0) hx hb dLaw_encode_1 (by decide) ?_
  refine lv_aload_n hx hb dLaw_encode_2 rfl (lv_at hl 0 rfl) ?_
  refine qa_i (wr := [(o, .inl (cJ, 1, .inr (.inl f)))]) (wc := W) hP hD hS hA (va_runV (As := []) (rest := [.int 0, .ref o]) ⟨hx, hb, hml, hown, ht⟩ (hM s.heap.size) (cwV 0 ht (g_V km_Law_17 ki_VF_encode kv_VF_encode kI_VF kc_VF_encode) rfl rfl rfl (by decide +kernel) ⟨Nat.le_refl (fr + 1), (by show 8 + (2 + 11) + lo ≤ lo + 30; omega)⟩) (cPre_V (ci := 5) (q0 := 0) (hK.sub [0, 1] rfl) hmb (wP_right (w1 := [(o, .inl (cJ, 1, .inr (.inl f)))]) hP) (wD_right (w1 := [(o, .inl (cJ, 1, .inr (.inl f)))]) hD) rfl hr) rfl rfl hl.1 rfl (lv_room (Nat.le_of_ble_eq_true rfl)) dLaw_encode_3 ⟨Nat.le_refl _, Nat.le_refl _⟩) (fun r u H locs hw hP hD hS => ?_)
  subst hw
  refine lv_i2l hx hb dLaw_encode_6 rfl ?_
  refine va_last hx hb hK hP hD hS 0 2 rfl rfl (by unfold vp_in; decide) dLaw_encode_7 (fun H locs hP hD hS => ?_)
  refine lv_goto (tgt := 17) hx hb dLaw_encode_8 (by decide) ?_
  refine lv_iconst (v := 0) hx hb dLaw_encode_17 (by decide) ?_
  exact e_i u hx hb hr0 hlk (hK.sub [0, 1] rfl) hP hD hS rfl rfl dLaw_encode_18
set_option maxRecDepth 100000 in
theorem h_encode_1 {l : Launch} {D : va_G} {cF cI cJ cD : ClassId} {W W1 : va_W} {x0 : Nat} {fs : List Value} (hr : W[0]? = some (x0, .inr (5, fs))) (hC : XI l D cF cI yVF_encode (.code yVF_encode cVF_encode 2 (some .int)) [.ref x0] W "java/lang/IllegalStateException" W1) (o : Nat) (f : Nat → Int64) (v : Int32) : HJ l D cF cI cJ cD yLaw_encode (.codeWith yLaw_encode cLaw_encode 3 (some .int) [(0, 8, 11, 15), (0, 8, 14, 21)]) [.ref x0, .ref o] W o f 1 v (fun z => z = W1) := by
  obtain ⟨fr, lo, hfr, hlo, hM⟩ := hC
  refine ⟨Unit, fun _ => (o, .inl (cJ, 1, .inr (.inl f))) :: W1, fr + 1, 1, 6, lo + 30, by omega, by omega, by omega, by omega, fun u => ⟨_, _, rfl, fun h => absurd h (by decide), rfl⟩, fun sz => ?_⟩
  refine h_ofW (own := RLaw) (by decide) rfl (fun p e s m below meth c hsz hx hb hr0 hml hown ht hlk hP hK hD hmb hex hZ hmx => ?_)
  subst hsz
  generalize hAe : va_A ((o, .inl (cJ, 1, .inr (.inl f))) :: W) s.heap.size = A at hD hZ ⊢
  have hA : ∀ q : Nat, s.heap.size ≤ q → A q := fun q h => by rw [← hAe]; exact Or.inr h
  have hS : va_S A s.heap s.heap [] := va_S.rf
  have hl := lv_entry ([.ref x0, .ref o]) (n := 3) (Nat.le_of_ble_eq_true rfl)
  rw [lg_entry_eq]
  generalize (lg_sl ([.ref x0, .ref o]) ++ List.replicate (3 - (lg_sl ([.ref x0, .ref o])).length) Slot.unset).toArray = ls at hl ⊢
  have hl : lv_has ls 3 [(0, .ref x0), (1, .ref o)] := hl
  refine lv_aload_n hx hb dLaw_encode_0 rfl (lv_at hl 1 rfl) ?_
  refine lv_iconst (v := 0) hx hb dLaw_encode_1 (by decide) ?_
  refine lv_aload_n hx hb dLaw_encode_2 rfl (lv_at hl 0 rfl) ?_
  have hF := freeA (wr := [(o, .inl (cJ, 1, .inr (.inl f)))]) (wc := W) hD hS hA
  refine qx_i (wr := [(o, .inl (cJ, 1, .inr (.inl f)))]) (wc := W) hP hD hS hA (vx_runV (As := []) (rest := [.int 0, .ref o]) ⟨hx, hb, hml, hown, ht⟩ (hM s.heap.size) (cwV 0 ht (g_V km_Law_17 ki_VF_encode kv_VF_encode kI_VF kc_VF_encode) rfl rfl rfl (by decide +kernel) ⟨Nat.le_refl (fr + 1), (by show 8 + (2 + 11) + lo ≤ lo + 30; omega)⟩) (xPre_V (ci := 5) (q0 := 0) (hK.sub [0, 1] rfl) hmb hmx hZ hS hF (wP_right (w1 := [(o, .inl (cJ, 1, .inr (.inl f)))]) hP) (wD_right (w1 := [(o, .inl (cJ, 1, .inr (.inl f)))]) hD) rfl hr) rfl rfl hl.1 rfl (lv_room (Nat.le_of_ble_eq_true rfl)) dLaw_encode_3 ⟨Nat.le_refl _, Nat.le_refl _⟩) (fun ce q9 H locs hP hD hS hc9 hv9 hcl9 => ?_)
  refine vx_catch (own := RLaw) (name := "java/lang/IllegalStateException") (E := "java/lang/IllegalStateException") hown [] ⟨0, 8, 11, 15⟩ [⟨0, 8, 14, 21⟩] hex (fun z hz => nomatch hz) rfl (by decide) (ht _ kl_Law_15) (va_Nw.use rfl (hmx.1 _ (List.mem_of_getElem? (i := 4) rfl))) hc9 hv9 hcl9 ?_
  refine lv_astore_n (lv' := [(2, .ref q9), (0, .ref x0), (1, .ref o)]) hx hb dLaw_encode_11 rfl hl (by decide) rfl (fun ls hl => ?_)
  refine lv_iconst (v := 1) hx hb dLaw_encode_12 (by decide) ?_
  exact e_i () hx hb hr0 hlk (hK.sub [0, 1] rfl) hP hD hS rfl rfl dLaw_encode_13
set_option maxRecDepth 100000 in
theorem h_encode_2 {l : Launch} {D : va_G} {cF cI cJ cD : ClassId} {W W1 : va_W} {x0 : Nat} {fs : List Value} (hr : W[0]? = some (x0, .inr (5, fs))) (hC : XI l D cF cI yVF_encode (.code yVF_encode cVF_encode 2 (some .int)) [.ref x0] W "java/lang/IndexOutOfBoundsException" W1) (o : Nat) (f : Nat → Int64) (v : Int32) : HJ l D cF cI cJ cD yLaw_encode (.codeWith yLaw_encode cLaw_encode 3 (some .int) [(0, 8, 11, 15), (0, 8, 14, 21)]) [.ref x0, .ref o] W o f 2 v (fun z => z = W1) := by
  obtain ⟨fr, lo, hfr, hlo, hM⟩ := hC
  refine ⟨Unit, fun _ => (o, .inl (cJ, 1, .inr (.inl f))) :: W1, fr + 1, 1, 6, lo + 30, by omega, by omega, by omega, by omega, fun u => ⟨_, _, rfl, fun h => absurd h (by decide), rfl⟩, fun sz => ?_⟩
  refine h_ofW (own := RLaw) (by decide) rfl (fun p e s m below meth c hsz hx hb hr0 hml hown ht hlk hP hK hD hmb hex hZ hmx => ?_)
  subst hsz
  generalize hAe : va_A ((o, .inl (cJ, 1, .inr (.inl f))) :: W) s.heap.size = A at hD hZ ⊢
  have hA : ∀ q : Nat, s.heap.size ≤ q → A q := fun q h => by rw [← hAe]; exact Or.inr h
  have hS : va_S A s.heap s.heap [] := va_S.rf
  have hl := lv_entry ([.ref x0, .ref o]) (n := 3) (Nat.le_of_ble_eq_true rfl)
  rw [lg_entry_eq]
  generalize (lg_sl ([.ref x0, .ref o]) ++ List.replicate (3 - (lg_sl ([.ref x0, .ref o])).length) Slot.unset).toArray = ls at hl ⊢
  have hl : lv_has ls 3 [(0, .ref x0), (1, .ref o)] := hl
  refine lv_aload_n hx hb dLaw_encode_0 rfl (lv_at hl 1 rfl) ?_
  refine lv_iconst (v := 0) hx hb dLaw_encode_1 (by decide) ?_
  refine lv_aload_n hx hb dLaw_encode_2 rfl (lv_at hl 0 rfl) ?_
  have hF := freeA (wr := [(o, .inl (cJ, 1, .inr (.inl f)))]) (wc := W) hD hS hA
  refine qx_i (wr := [(o, .inl (cJ, 1, .inr (.inl f)))]) (wc := W) hP hD hS hA (vx_runV (As := []) (rest := [.int 0, .ref o]) ⟨hx, hb, hml, hown, ht⟩ (hM s.heap.size) (cwV 0 ht (g_V km_Law_17 ki_VF_encode kv_VF_encode kI_VF kc_VF_encode) rfl rfl rfl (by decide +kernel) ⟨Nat.le_refl (fr + 1), (by show 8 + (2 + 11) + lo ≤ lo + 30; omega)⟩) (xPre_V (ci := 5) (q0 := 0) (hK.sub [0, 1] rfl) hmb hmx hZ hS hF (wP_right (w1 := [(o, .inl (cJ, 1, .inr (.inl f)))]) hP) (wD_right (w1 := [(o, .inl (cJ, 1, .inr (.inl f)))]) hD) rfl hr) rfl rfl hl.1 rfl (lv_room (Nat.le_of_ble_eq_true rfl)) dLaw_encode_3 ⟨Nat.le_refl _, Nat.le_refl _⟩) (fun ce q9 H locs hP hD hS hc9 hv9 hcl9 => ?_)
  refine vx_catch (own := RLaw) (name := "java/lang/IndexOutOfBoundsException") (E := "java/lang/IndexOutOfBoundsException") hown [⟨0, 8, 11, 15⟩] ⟨0, 8, 14, 21⟩ [] hex (fun z hz => by rcases List.mem_singleton.mp hz with rfl; exact Or.inr ⟨by decide, "java/lang/IllegalStateException", ht _ kl_Law_15, hmx.2 _ (List.mem_of_getElem? (i := 1) rfl)⟩) rfl (by decide) (ht _ kl_Law_21) (va_Nw.use rfl (hmx.1 _ (List.mem_of_getElem? (i := 5) rfl))) hc9 hv9 hcl9 ?_
  refine lv_astore_n (lv' := [(2, .ref q9), (0, .ref x0), (1, .ref o)]) hx hb dLaw_encode_14 rfl hl (by decide) rfl (fun ls hl => ?_)
  refine lv_iconst (v := 2) hx hb dLaw_encode_15 (by decide) ?_
  exact e_i () hx hb hr0 hlk (hK.sub [0, 1] rfl) hP hD hS rfl rfl dLaw_encode_16
set_option maxRecDepth 100000 in
theorem h_decode_R {l : Launch} {D : va_G} {cF cI cJ cD : ClassId} {W : va_W} {x0 : Nat} {fs : List Value} {v : Int32} {P : va_W → Prop} (hr : W[0]? = some (x0, .inr (5, fs))) (hC : CI l D cF cI yVF_decode (.code yVF_decode cVF_decode 1 (some .int)) [.ref x0] W v P) (o : Nat) (f : Nat → Int64) : HJ l D cF cI cJ cD yLaw_decode (.codeWith yLaw_decode cLaw_decode 3 (some .int) [(0, 8, 11, 26), (0, 8, 14, 15)]) [.ref x0, .ref o] W o f 0 v P := by
  obtain ⟨S, w, fr, lo, hfr, hlo, hPw, hM⟩ := hC
  refine ⟨S, fun u => (o, .inl (cJ, 1, .inr (.inl (vp_updL f 0 v.toInt64)))) :: w u, fr + 1, 0, 0, lo + 30, by omega, by omega, by omega, by omega, fun u => ⟨_, _, hPw u, fun _ => if_pos rfl, rfl⟩, fun sz => ?_⟩
  refine h_ofW (own := RLaw) (by decide) rfl (fun p e s m below meth c hsz hx hb hr0 hml hown ht hlk hP hK hD hmb hex hZ hmx => ?_)
  subst hsz
  generalize hAe : va_A ((o, .inl (cJ, 1, .inr (.inl f))) :: W) s.heap.size = A at hD hZ ⊢
  have hA : ∀ q : Nat, s.heap.size ≤ q → A q := fun q h => by rw [← hAe]; exact Or.inr h
  have hS : va_S A s.heap s.heap [] := va_S.rf
  have hl := lv_entry ([.ref x0, .ref o]) (n := 3) (Nat.le_of_ble_eq_true rfl)
  rw [lg_entry_eq]
  generalize (lg_sl ([.ref x0, .ref o]) ++ List.replicate (3 - (lg_sl ([.ref x0, .ref o])).length) Slot.unset).toArray = ls at hl ⊢
  have hl : lv_has ls 3 [(0, .ref x0), (1, .ref o)] := hl
  refine lv_aload_n hx hb dLaw_decode_0 rfl (lv_at hl 1 rfl) ?_
  refine lv_iconst (v := 0) hx hb dLaw_decode_1 (by decide) ?_
  refine lv_aload_n hx hb dLaw_decode_2 rfl (lv_at hl 0 rfl) ?_
  refine qa_i (wr := [(o, .inl (cJ, 1, .inr (.inl f)))]) (wc := W) hP hD hS hA (va_runV (As := []) (rest := [.int 0, .ref o]) ⟨hx, hb, hml, hown, ht⟩ (hM s.heap.size) (cwV 0 ht (g_V km_Law_23 ki_VF_decode kv_VF_decode kI_VF kc_VF_decode) rfl rfl rfl (by decide +kernel) ⟨Nat.le_refl (fr + 1), (by show 8 + (1 + 11) + lo ≤ lo + 30; omega)⟩) (cPre_V (ci := 5) (q0 := 0) (hK.sub [0, 1] rfl) hmb (wP_right (w1 := [(o, .inl (cJ, 1, .inr (.inl f)))]) hP) (wD_right (w1 := [(o, .inl (cJ, 1, .inr (.inl f)))]) hD) rfl hr) rfl rfl hl.1 rfl (lv_room (Nat.le_of_ble_eq_true rfl)) dLaw_decode_3 ⟨Nat.le_refl _, Nat.le_refl _⟩) (fun r u H locs hw hP hD hS => ?_)
  subst hw
  refine lv_i2l hx hb dLaw_decode_6 rfl ?_
  refine va_last hx hb hK hP hD hS 0 2 rfl rfl (by unfold vp_in; decide) dLaw_decode_7 (fun H locs hP hD hS => ?_)
  refine lv_goto (tgt := 17) hx hb dLaw_decode_8 (by decide) ?_
  refine lv_iconst (v := 0) hx hb dLaw_decode_17 (by decide) ?_
  exact e_i u hx hb hr0 hlk (hK.sub [0, 1] rfl) hP hD hS rfl rfl dLaw_decode_18
set_option maxRecDepth 100000 in
theorem h_decode_1 {l : Launch} {D : va_G} {cF cI cJ cD : ClassId} {W W1 : va_W} {x0 : Nat} {fs : List Value} (hr : W[0]? = some (x0, .inr (5, fs))) (hC : XI l D cF cI yVF_decode (.code yVF_decode cVF_decode 1 (some .int)) [.ref x0] W "java/util/NoSuchElementException" W1) (o : Nat) (f : Nat → Int64) (v : Int32) : HJ l D cF cI cJ cD yLaw_decode (.codeWith yLaw_decode cLaw_decode 3 (some .int) [(0, 8, 11, 26), (0, 8, 14, 15)]) [.ref x0, .ref o] W o f 1 v (fun z => z = W1) := by
  obtain ⟨fr, lo, hfr, hlo, hM⟩ := hC
  refine ⟨Unit, fun _ => (o, .inl (cJ, 1, .inr (.inl f))) :: W1, fr + 1, 1, 6, lo + 30, by omega, by omega, by omega, by omega, fun u => ⟨_, _, rfl, fun h => absurd h (by decide), rfl⟩, fun sz => ?_⟩
  refine h_ofW (own := RLaw) (by decide) rfl (fun p e s m below meth c hsz hx hb hr0 hml hown ht hlk hP hK hD hmb hex hZ hmx => ?_)
  subst hsz
  generalize hAe : va_A ((o, .inl (cJ, 1, .inr (.inl f))) :: W) s.heap.size = A at hD hZ ⊢
  have hA : ∀ q : Nat, s.heap.size ≤ q → A q := fun q h => by rw [← hAe]; exact Or.inr h
  have hS : va_S A s.heap s.heap [] := va_S.rf
  have hl := lv_entry ([.ref x0, .ref o]) (n := 3) (Nat.le_of_ble_eq_true rfl)
  rw [lg_entry_eq]
  generalize (lg_sl ([.ref x0, .ref o]) ++ List.replicate (3 - (lg_sl ([.ref x0, .ref o])).length) Slot.unset).toArray = ls at hl ⊢
  have hl : lv_has ls 3 [(0, .ref x0), (1, .ref o)] := hl
  refine lv_aload_n hx hb dLaw_decode_0 rfl (lv_at hl 1 rfl) ?_
  refine lv_iconst (v := 0) hx hb dLaw_decode_1 (by decide) ?_
  refine lv_aload_n hx hb dLaw_decode_2 rfl (lv_at hl 0 rfl) ?_
  have hF := freeA (wr := [(o, .inl (cJ, 1, .inr (.inl f)))]) (wc := W) hD hS hA
  refine qx_i (wr := [(o, .inl (cJ, 1, .inr (.inl f)))]) (wc := W) hP hD hS hA (vx_runV (As := []) (rest := [.int 0, .ref o]) ⟨hx, hb, hml, hown, ht⟩ (hM s.heap.size) (cwV 0 ht (g_V km_Law_23 ki_VF_decode kv_VF_decode kI_VF kc_VF_decode) rfl rfl rfl (by decide +kernel) ⟨Nat.le_refl (fr + 1), (by show 8 + (1 + 11) + lo ≤ lo + 30; omega)⟩) (xPre_V (ci := 5) (q0 := 0) (hK.sub [0, 1] rfl) hmb hmx hZ hS hF (wP_right (w1 := [(o, .inl (cJ, 1, .inr (.inl f)))]) hP) (wD_right (w1 := [(o, .inl (cJ, 1, .inr (.inl f)))]) hD) rfl hr) rfl rfl hl.1 rfl (lv_room (Nat.le_of_ble_eq_true rfl)) dLaw_decode_3 ⟨Nat.le_refl _, Nat.le_refl _⟩) (fun ce q9 H locs hP hD hS hc9 hv9 hcl9 => ?_)
  refine vx_catch (own := RLaw) (name := "java/util/NoSuchElementException") (E := "java/util/NoSuchElementException") hown [] ⟨0, 8, 11, 26⟩ [⟨0, 8, 14, 15⟩] hex (fun z hz => nomatch hz) rfl (by decide) (ht _ kl_Law_26) (va_Nw.use rfl (hmx.1 _ (List.mem_of_getElem? (i := 6) rfl))) hc9 hv9 hcl9 ?_
  refine lv_astore_n (lv' := [(2, .ref q9), (0, .ref x0), (1, .ref o)]) hx hb dLaw_decode_11 rfl hl (by decide) rfl (fun ls hl => ?_)
  refine lv_iconst (v := 1) hx hb dLaw_decode_12 (by decide) ?_
  exact e_i () hx hb hr0 hlk (hK.sub [0, 1] rfl) hP hD hS rfl rfl dLaw_decode_13
set_option maxRecDepth 100000 in
theorem h_decode_2 {l : Launch} {D : va_G} {cF cI cJ cD : ClassId} {W W1 : va_W} {x0 : Nat} {fs : List Value} (hr : W[0]? = some (x0, .inr (5, fs))) (hC : XI l D cF cI yVF_decode (.code yVF_decode cVF_decode 1 (some .int)) [.ref x0] W "java/lang/IllegalStateException" W1) (o : Nat) (f : Nat → Int64) (v : Int32) : HJ l D cF cI cJ cD yLaw_decode (.codeWith yLaw_decode cLaw_decode 3 (some .int) [(0, 8, 11, 26), (0, 8, 14, 15)]) [.ref x0, .ref o] W o f 2 v (fun z => z = W1) := by
  obtain ⟨fr, lo, hfr, hlo, hM⟩ := hC
  refine ⟨Unit, fun _ => (o, .inl (cJ, 1, .inr (.inl f))) :: W1, fr + 1, 1, 6, lo + 30, by omega, by omega, by omega, by omega, fun u => ⟨_, _, rfl, fun h => absurd h (by decide), rfl⟩, fun sz => ?_⟩
  refine h_ofW (own := RLaw) (by decide) rfl (fun p e s m below meth c hsz hx hb hr0 hml hown ht hlk hP hK hD hmb hex hZ hmx => ?_)
  subst hsz
  generalize hAe : va_A ((o, .inl (cJ, 1, .inr (.inl f))) :: W) s.heap.size = A at hD hZ ⊢
  have hA : ∀ q : Nat, s.heap.size ≤ q → A q := fun q h => by rw [← hAe]; exact Or.inr h
  have hS : va_S A s.heap s.heap [] := va_S.rf
  have hl := lv_entry ([.ref x0, .ref o]) (n := 3) (Nat.le_of_ble_eq_true rfl)
  rw [lg_entry_eq]
  generalize (lg_sl ([.ref x0, .ref o]) ++ List.replicate (3 - (lg_sl ([.ref x0, .ref o])).length) Slot.unset).toArray = ls at hl ⊢
  have hl : lv_has ls 3 [(0, .ref x0), (1, .ref o)] := hl
  refine lv_aload_n hx hb dLaw_decode_0 rfl (lv_at hl 1 rfl) ?_
  refine lv_iconst (v := 0) hx hb dLaw_decode_1 (by decide) ?_
  refine lv_aload_n hx hb dLaw_decode_2 rfl (lv_at hl 0 rfl) ?_
  have hF := freeA (wr := [(o, .inl (cJ, 1, .inr (.inl f)))]) (wc := W) hD hS hA
  refine qx_i (wr := [(o, .inl (cJ, 1, .inr (.inl f)))]) (wc := W) hP hD hS hA (vx_runV (As := []) (rest := [.int 0, .ref o]) ⟨hx, hb, hml, hown, ht⟩ (hM s.heap.size) (cwV 0 ht (g_V km_Law_23 ki_VF_decode kv_VF_decode kI_VF kc_VF_decode) rfl rfl rfl (by decide +kernel) ⟨Nat.le_refl (fr + 1), (by show 8 + (1 + 11) + lo ≤ lo + 30; omega)⟩) (xPre_V (ci := 5) (q0 := 0) (hK.sub [0, 1] rfl) hmb hmx hZ hS hF (wP_right (w1 := [(o, .inl (cJ, 1, .inr (.inl f)))]) hP) (wD_right (w1 := [(o, .inl (cJ, 1, .inr (.inl f)))]) hD) rfl hr) rfl rfl hl.1 rfl (lv_room (Nat.le_of_ble_eq_true rfl)) dLaw_decode_3 ⟨Nat.le_refl _, Nat.le_refl _⟩) (fun ce q9 H locs hP hD hS hc9 hv9 hcl9 => ?_)
  refine vx_catch (own := RLaw) (name := "java/lang/IllegalStateException") (E := "java/lang/IllegalStateException") hown [⟨0, 8, 11, 26⟩] ⟨0, 8, 14, 15⟩ [] hex (fun z hz => by rcases List.mem_singleton.mp hz with rfl; exact Or.inr ⟨by decide, "java/util/NoSuchElementException", ht _ kl_Law_26, hmx.2 _ (List.mem_of_getElem? (i := 2) rfl)⟩) rfl (by decide) (ht _ kl_Law_15) (va_Nw.use rfl (hmx.1 _ (List.mem_of_getElem? (i := 4) rfl))) hc9 hv9 hcl9 ?_
  refine lv_astore_n (lv' := [(2, .ref q9), (0, .ref x0), (1, .ref o)]) hx hb dLaw_decode_14 rfl hl (by decide) rfl (fun ls hl => ?_)
  refine lv_iconst (v := 2) hx hb dLaw_decode_15 (by decide) ?_
  exact e_i () hx hb hr0 hlk (hK.sub [0, 1] rfl) hP hD hS rfl rfl dLaw_decode_16
set_option maxRecDepth 100000 in
theorem h_out_R {l : Launch} {D : va_G} {cF cI cJ cD : ClassId} {W : va_W} {x0 : Nat} {fs : List Value} {v : UInt64} {P : va_W → Prop} (b : Int32) (n : Int32) (hr : W[0]? = some (x0, .inr (5, fs))) (hC : CD l D cF cI yVF_out (.code yVF_out cVF_out 4 (some .double)) [.ref x0, .int b, .int n] W v P) (o : Nat) (f : Nat → UInt64) : HD l D cF cI cJ cD yLaw_out (.codeWith yLaw_out cLaw_out 5 (some .int) [(0, 9, 12, 21)]) [.ref x0, .int b, .int n, .ref o] W o f 0 v P := by
  obtain ⟨S, w, fr, lo, hfr, hlo, hPw, hM⟩ := hC
  refine ⟨S, fun u => (o, .inl (cD, 1, .inr (.inr (.inr (.inl (vf_upd f 0 v)))))) :: w u, fr + 1, 0, 0, lo + 30, by omega, by omega, by omega, by omega, fun u => ⟨_, _, hPw u, fun _ => if_pos rfl, rfl⟩, fun sz => ?_⟩
  refine h_ofW (own := RLaw) (by decide) rfl (fun p e s m below meth c hsz hx hb hr0 hml hown ht hlk hP hK hD hmb hex hZ hmx => ?_)
  subst hsz
  generalize hAe : va_A ((o, .inl (cD, 1, .inr (.inr (.inr (.inl f))))) :: W) s.heap.size = A at hD hZ ⊢
  have hA : ∀ q : Nat, s.heap.size ≤ q → A q := fun q h => by rw [← hAe]; exact Or.inr h
  have hS : va_S A s.heap s.heap [] := va_S.rf
  have hl := lv_entry ([.ref x0, .int b, .int n, .ref o]) (n := 5) (Nat.le_of_ble_eq_true rfl)
  rw [lg_entry_eq]
  generalize (lg_sl ([.ref x0, .int b, .int n, .ref o]) ++ List.replicate (5 - (lg_sl ([.ref x0, .int b, .int n, .ref o])).length) Slot.unset).toArray = ls at hl ⊢
  have hl : lv_has ls 5 [(0, .ref x0), (1, .int b), (2, .int n), (3, .ref o)] := hl
  refine lv_aload_n hx hb dLaw_out_0 rfl (lv_at hl 3 rfl) ?_
  refine lv_iconst (v := 0) hx hb dLaw_out_1 (by decide) ?_
  refine lv_aload_n hx hb dLaw_out_2 rfl (lv_at hl 0 rfl) ?_
  refine lv_iload_n hx hb dLaw_out_3 rfl (lv_at hl 1 rfl) ?_
  refine lv_iload_n hx hb dLaw_out_4 rfl (lv_at hl 2 rfl) ?_
  refine qa_d (wr := [(o, .inl (cD, 1, .inr (.inr (.inr (.inl f)))))]) (wc := W) hP hD hS hA (va_runV (As := [.int b, .int n]) (rest := [.int 0, .ref o]) ⟨hx, hb, hml, hown, ht⟩ (hM s.heap.size) (cwV 2 ht (g_V km_Law_28 ki_VF_out kv_VF_out kI_VF kc_VF_out) rfl rfl rfl (by decide +kernel) ⟨Nat.le_refl (fr + 1), (by show 8 + (4 + 11) + lo ≤ lo + 30; omega)⟩) (cPre_V (ci := 5) (q0 := 0) (hK.sub [0, 1] rfl) hmb (wP_right (w1 := [(o, .inl (cD, 1, .inr (.inr (.inr (.inl f)))))]) hP) (wD_right (w1 := [(o, .inl (cD, 1, .inr (.inr (.inr (.inl f)))))]) hD) rfl hr) rfl rfl hl.1 rfl (lv_room (Nat.le_of_ble_eq_true rfl)) dLaw_out_5 ⟨Nat.le_refl _, Nat.le_refl _⟩) (fun r u H locs hw hP hD hS => ?_)
  subst hw
  refine va_dast hx hb hK hP hD hS 0 3 rfl rfl (by unfold vp_in; decide) dLaw_out_8 (fun H locs hP hD hS => ?_)
  refine lv_goto (tgt := 16) hx hb dLaw_out_9 (by decide) ?_
  refine lv_iconst (v := 0) hx hb dLaw_out_16 (by decide) ?_
  exact e_i u hx hb hr0 hlk (hK.sub [0, 1] rfl) hP hD hS rfl rfl dLaw_out_17
set_option maxRecDepth 100000 in
theorem h_out_1 {l : Launch} {D : va_G} {cF cI cJ cD : ClassId} {W W1 : va_W} {x0 : Nat} {fs : List Value} (b : Int32) (n : Int32) (hr : W[0]? = some (x0, .inr (5, fs))) (hC : XD l D cF cI yVF_out (.code yVF_out cVF_out 4 (some .double)) [.ref x0, .int b, .int n] W "java/lang/IndexOutOfBoundsException" W1) (o : Nat) (f : Nat → UInt64) (v : UInt64) : HD l D cF cI cJ cD yLaw_out (.codeWith yLaw_out cLaw_out 5 (some .int) [(0, 9, 12, 21)]) [.ref x0, .int b, .int n, .ref o] W o f 1 v (fun z => z = W1) := by
  obtain ⟨fr, lo, hfr, hlo, hM⟩ := hC
  refine ⟨Unit, fun _ => (o, .inl (cD, 1, .inr (.inr (.inr (.inl f))))) :: W1, fr + 1, 1, 6, lo + 30, by omega, by omega, by omega, by omega, fun u => ⟨_, _, rfl, fun h => absurd h (by decide), rfl⟩, fun sz => ?_⟩
  refine h_ofW (own := RLaw) (by decide) rfl (fun p e s m below meth c hsz hx hb hr0 hml hown ht hlk hP hK hD hmb hex hZ hmx => ?_)
  subst hsz
  generalize hAe : va_A ((o, .inl (cD, 1, .inr (.inr (.inr (.inl f))))) :: W) s.heap.size = A at hD hZ ⊢
  have hA : ∀ q : Nat, s.heap.size ≤ q → A q := fun q h => by rw [← hAe]; exact Or.inr h
  have hS : va_S A s.heap s.heap [] := va_S.rf
  have hl := lv_entry ([.ref x0, .int b, .int n, .ref o]) (n := 5) (Nat.le_of_ble_eq_true rfl)
  rw [lg_entry_eq]
  generalize (lg_sl ([.ref x0, .int b, .int n, .ref o]) ++ List.replicate (5 - (lg_sl ([.ref x0, .int b, .int n, .ref o])).length) Slot.unset).toArray = ls at hl ⊢
  have hl : lv_has ls 5 [(0, .ref x0), (1, .int b), (2, .int n), (3, .ref o)] := hl
  refine lv_aload_n hx hb dLaw_out_0 rfl (lv_at hl 3 rfl) ?_
  refine lv_iconst (v := 0) hx hb dLaw_out_1 (by decide) ?_
  refine lv_aload_n hx hb dLaw_out_2 rfl (lv_at hl 0 rfl) ?_
  refine lv_iload_n hx hb dLaw_out_3 rfl (lv_at hl 1 rfl) ?_
  refine lv_iload_n hx hb dLaw_out_4 rfl (lv_at hl 2 rfl) ?_
  have hF := freeA (wr := [(o, .inl (cD, 1, .inr (.inr (.inr (.inl f)))))]) (wc := W) hD hS hA
  refine qx_d (wr := [(o, .inl (cD, 1, .inr (.inr (.inr (.inl f)))))]) (wc := W) hP hD hS hA (vx_runV (As := [.int b, .int n]) (rest := [.int 0, .ref o]) ⟨hx, hb, hml, hown, ht⟩ (hM s.heap.size) (cwV 2 ht (g_V km_Law_28 ki_VF_out kv_VF_out kI_VF kc_VF_out) rfl rfl rfl (by decide +kernel) ⟨Nat.le_refl (fr + 1), (by show 8 + (4 + 11) + lo ≤ lo + 30; omega)⟩) (xPre_V (ci := 5) (q0 := 0) (hK.sub [0, 1] rfl) hmb hmx hZ hS hF (wP_right (w1 := [(o, .inl (cD, 1, .inr (.inr (.inr (.inl f)))))]) hP) (wD_right (w1 := [(o, .inl (cD, 1, .inr (.inr (.inr (.inl f)))))]) hD) rfl hr) rfl rfl hl.1 rfl (lv_room (Nat.le_of_ble_eq_true rfl)) dLaw_out_5 ⟨Nat.le_refl _, Nat.le_refl _⟩) (fun ce q9 H locs hP hD hS hc9 hv9 hcl9 => ?_)
  refine vx_catch (own := RLaw) (name := "java/lang/IndexOutOfBoundsException") (E := "java/lang/IndexOutOfBoundsException") hown [] ⟨0, 9, 12, 21⟩ [] hex (fun z hz => nomatch hz) rfl (by decide) (ht _ kl_Law_21) (va_Nw.use rfl (hmx.1 _ (List.mem_of_getElem? (i := 5) rfl))) hc9 hv9 hcl9 ?_
  refine lv_astore (lv' := [(4, .ref q9), (0, .ref x0), (1, .int b), (2, .int n), (3, .ref o)]) hx hb dLaw_out_12 hl (by decide) rfl (fun ls hl => ?_)
  refine lv_iconst (v := 1) hx hb dLaw_out_14 (by decide) ?_
  exact e_i () hx hb hr0 hlk (hK.sub [0, 1] rfl) hP hD hS rfl rfl dLaw_out_15
set_option maxRecDepth 100000 in
theorem h_code_R {l : Launch} {D : va_G} {cF cI cJ cD : ClassId} {W : va_W} {x0 : Nat} {fs : List Value} {v : Int32} {P : va_W → Prop} (n : Int32) (hr : W[0]? = some (x0, .inr (5, fs))) (hC : CI l D cF cI yVF_code (.code yVF_code cVF_code 3 (some .int)) [.ref x0, .int n] W v P) (o : Nat) (f : Nat → Int64) : HJ l D cF cI cJ cD yLaw_code (.codeWith yLaw_code cLaw_code 4 (some .int) [(0, 9, 12, 13)]) [.ref x0, .int n, .ref o] W o f 0 v P := by
  obtain ⟨S, w, fr, lo, hfr, hlo, hPw, hM⟩ := hC
  refine ⟨S, fun u => (o, .inl (cJ, 1, .inr (.inl (vp_updL f 0 v.toInt64)))) :: w u, fr + 1, 0, 0, lo + 30, by omega, by omega, by omega, by omega, fun u => ⟨_, _, hPw u, fun _ => if_pos rfl, rfl⟩, fun sz => ?_⟩
  refine h_ofW (own := RLaw) (by decide) rfl (fun p e s m below meth c hsz hx hb hr0 hml hown ht hlk hP hK hD hmb hex hZ hmx => ?_)
  subst hsz
  generalize hAe : va_A ((o, .inl (cJ, 1, .inr (.inl f))) :: W) s.heap.size = A at hD hZ ⊢
  have hA : ∀ q : Nat, s.heap.size ≤ q → A q := fun q h => by rw [← hAe]; exact Or.inr h
  have hS : va_S A s.heap s.heap [] := va_S.rf
  have hl := lv_entry ([.ref x0, .int n, .ref o]) (n := 4) (Nat.le_of_ble_eq_true rfl)
  rw [lg_entry_eq]
  generalize (lg_sl ([.ref x0, .int n, .ref o]) ++ List.replicate (4 - (lg_sl ([.ref x0, .int n, .ref o])).length) Slot.unset).toArray = ls at hl ⊢
  have hl : lv_has ls 4 [(0, .ref x0), (1, .int n), (2, .ref o)] := hl
  refine lv_aload_n hx hb dLaw_code_0 rfl (lv_at hl 2 rfl) ?_
  refine lv_iconst (v := 0) hx hb dLaw_code_1 (by decide) ?_
  refine lv_aload_n hx hb dLaw_code_2 rfl (lv_at hl 0 rfl) ?_
  refine lv_iload_n hx hb dLaw_code_3 rfl (lv_at hl 1 rfl) ?_
  refine qa_i (wr := [(o, .inl (cJ, 1, .inr (.inl f)))]) (wc := W) hP hD hS hA (va_runV (As := [.int n]) (rest := [.int 0, .ref o]) ⟨hx, hb, hml, hown, ht⟩ (hM s.heap.size) (cwV 1 ht (g_V km_Law_32 ki_VF_code kv_VF_code kI_VF kc_VF_code) rfl rfl rfl (by decide +kernel) ⟨Nat.le_refl (fr + 1), (by show 8 + (3 + 11) + lo ≤ lo + 30; omega)⟩) (cPre_V (ci := 5) (q0 := 0) (hK.sub [0, 1] rfl) hmb (wP_right (w1 := [(o, .inl (cJ, 1, .inr (.inl f)))]) hP) (wD_right (w1 := [(o, .inl (cJ, 1, .inr (.inl f)))]) hD) rfl hr) rfl rfl hl.1 rfl (lv_room (Nat.le_of_ble_eq_true rfl)) dLaw_code_4 ⟨Nat.le_refl _, Nat.le_refl _⟩) (fun r u H locs hw hP hD hS => ?_)
  subst hw
  refine lv_i2l hx hb dLaw_code_7 rfl ?_
  refine va_last hx hb hK hP hD hS 0 2 rfl rfl (by unfold vp_in; decide) dLaw_code_8 (fun H locs hP hD hS => ?_)
  refine lv_goto (tgt := 15) hx hb dLaw_code_9 (by decide) ?_
  refine lv_iconst (v := 0) hx hb dLaw_code_15 (by decide) ?_
  exact e_i u hx hb hr0 hlk (hK.sub [0, 1] rfl) hP hD hS rfl rfl dLaw_code_16
set_option maxRecDepth 100000 in
theorem h_code_1 {l : Launch} {D : va_G} {cF cI cJ cD : ClassId} {W W1 : va_W} {x0 : Nat} {fs : List Value} (n : Int32) (hr : W[0]? = some (x0, .inr (5, fs))) (hC : XI l D cF cI yVF_code (.code yVF_code cVF_code 3 (some .int)) [.ref x0, .int n] W "java/lang/IllegalArgumentException" W1) (o : Nat) (f : Nat → Int64) (v : Int32) : HJ l D cF cI cJ cD yLaw_code (.codeWith yLaw_code cLaw_code 4 (some .int) [(0, 9, 12, 13)]) [.ref x0, .int n, .ref o] W o f 1 v (fun z => z = W1) := by
  obtain ⟨fr, lo, hfr, hlo, hM⟩ := hC
  refine ⟨Unit, fun _ => (o, .inl (cJ, 1, .inr (.inl f))) :: W1, fr + 1, 1, 6, lo + 30, by omega, by omega, by omega, by omega, fun u => ⟨_, _, rfl, fun h => absurd h (by decide), rfl⟩, fun sz => ?_⟩
  refine h_ofW (own := RLaw) (by decide) rfl (fun p e s m below meth c hsz hx hb hr0 hml hown ht hlk hP hK hD hmb hex hZ hmx => ?_)
  subst hsz
  generalize hAe : va_A ((o, .inl (cJ, 1, .inr (.inl f))) :: W) s.heap.size = A at hD hZ ⊢
  have hA : ∀ q : Nat, s.heap.size ≤ q → A q := fun q h => by rw [← hAe]; exact Or.inr h
  have hS : va_S A s.heap s.heap [] := va_S.rf
  have hl := lv_entry ([.ref x0, .int n, .ref o]) (n := 4) (Nat.le_of_ble_eq_true rfl)
  rw [lg_entry_eq]
  generalize (lg_sl ([.ref x0, .int n, .ref o]) ++ List.replicate (4 - (lg_sl ([.ref x0, .int n, .ref o])).length) Slot.unset).toArray = ls at hl ⊢
  have hl : lv_has ls 4 [(0, .ref x0), (1, .int n), (2, .ref o)] := hl
  refine lv_aload_n hx hb dLaw_code_0 rfl (lv_at hl 2 rfl) ?_
  refine lv_iconst (v := 0) hx hb dLaw_code_1 (by decide) ?_
  refine lv_aload_n hx hb dLaw_code_2 rfl (lv_at hl 0 rfl) ?_
  refine lv_iload_n hx hb dLaw_code_3 rfl (lv_at hl 1 rfl) ?_
  have hF := freeA (wr := [(o, .inl (cJ, 1, .inr (.inl f)))]) (wc := W) hD hS hA
  refine qx_i (wr := [(o, .inl (cJ, 1, .inr (.inl f)))]) (wc := W) hP hD hS hA (vx_runV (As := [.int n]) (rest := [.int 0, .ref o]) ⟨hx, hb, hml, hown, ht⟩ (hM s.heap.size) (cwV 1 ht (g_V km_Law_32 ki_VF_code kv_VF_code kI_VF kc_VF_code) rfl rfl rfl (by decide +kernel) ⟨Nat.le_refl (fr + 1), (by show 8 + (3 + 11) + lo ≤ lo + 30; omega)⟩) (xPre_V (ci := 5) (q0 := 0) (hK.sub [0, 1] rfl) hmb hmx hZ hS hF (wP_right (w1 := [(o, .inl (cJ, 1, .inr (.inl f)))]) hP) (wD_right (w1 := [(o, .inl (cJ, 1, .inr (.inl f)))]) hD) rfl hr) rfl rfl hl.1 rfl (lv_room (Nat.le_of_ble_eq_true rfl)) dLaw_code_4 ⟨Nat.le_refl _, Nat.le_refl _⟩) (fun ce q9 H locs hP hD hS hc9 hv9 hcl9 => ?_)
  refine vx_catch (own := RLaw) (name := "java/lang/IllegalArgumentException") (E := "java/lang/IllegalArgumentException") hown [] ⟨0, 9, 12, 13⟩ [] hex (fun z hz => nomatch hz) rfl (by decide) (ht _ kl_Law_13) (va_Nw.use rfl (hmx.1 _ (List.mem_of_getElem? (i := 3) rfl))) hc9 hv9 hcl9 ?_
  refine lv_astore_n (lv' := [(3, .ref q9), (0, .ref x0), (1, .int n), (2, .ref o)]) hx hb dLaw_code_12 rfl hl (by decide) rfl (fun ls hl => ?_)
  refine lv_iconst (v := 1) hx hb dLaw_code_13 (by decide) ?_
  exact e_i () hx hb hr0 hlk (hK.sub [0, 1] rfl) hP hD hS rfl rfl dLaw_code_14
set_option maxRecDepth 100000 in
theorem h_stream_R {l : Launch} {D : va_G} {cF cI cJ cD : ClassId} {W : va_W} {x0 : Nat} {fs : List Value} {v : Int32} {P : va_W → Prop} (n : Int32) (hr : W[0]? = some (x0, .inr (5, fs))) (hC : CI l D cF cI yVF_stream (.code yVF_stream cVF_stream 2 (some .int)) [.ref x0, .int n] W v P) (o : Nat) (f : Nat → Int64) : HJ l D cF cI cJ cD yLaw_stream (.codeWith yLaw_stream cLaw_stream 4 (some .int) [(0, 9, 12, 21)]) [.ref x0, .int n, .ref o] W o f 0 v P := by
  obtain ⟨S, w, fr, lo, hfr, hlo, hPw, hM⟩ := hC
  refine ⟨S, fun u => (o, .inl (cJ, 1, .inr (.inl (vp_updL f 0 v.toInt64)))) :: w u, fr + 1, 0, 0, lo + 30, by omega, by omega, by omega, by omega, fun u => ⟨_, _, hPw u, fun _ => if_pos rfl, rfl⟩, fun sz => ?_⟩
  refine h_ofW (own := RLaw) (by decide) rfl (fun p e s m below meth c hsz hx hb hr0 hml hown ht hlk hP hK hD hmb hex hZ hmx => ?_)
  subst hsz
  generalize hAe : va_A ((o, .inl (cJ, 1, .inr (.inl f))) :: W) s.heap.size = A at hD hZ ⊢
  have hA : ∀ q : Nat, s.heap.size ≤ q → A q := fun q h => by rw [← hAe]; exact Or.inr h
  have hS : va_S A s.heap s.heap [] := va_S.rf
  have hl := lv_entry ([.ref x0, .int n, .ref o]) (n := 4) (Nat.le_of_ble_eq_true rfl)
  rw [lg_entry_eq]
  generalize (lg_sl ([.ref x0, .int n, .ref o]) ++ List.replicate (4 - (lg_sl ([.ref x0, .int n, .ref o])).length) Slot.unset).toArray = ls at hl ⊢
  have hl : lv_has ls 4 [(0, .ref x0), (1, .int n), (2, .ref o)] := hl
  refine lv_aload_n hx hb dLaw_stream_0 rfl (lv_at hl 2 rfl) ?_
  refine lv_iconst (v := 0) hx hb dLaw_stream_1 (by decide) ?_
  refine lv_aload_n hx hb dLaw_stream_2 rfl (lv_at hl 0 rfl) ?_
  refine lv_iload_n hx hb dLaw_stream_3 rfl (lv_at hl 1 rfl) ?_
  refine qa_i (wr := [(o, .inl (cJ, 1, .inr (.inl f)))]) (wc := W) hP hD hS hA (va_runV (As := [.int n]) (rest := [.int 0, .ref o]) ⟨hx, hb, hml, hown, ht⟩ (hM s.heap.size) (cwV 1 ht (g_V km_Law_36 ki_VF_stream kv_VF_stream kI_VF kc_VF_stream) rfl rfl rfl (by decide +kernel) ⟨Nat.le_refl (fr + 1), (by show 8 + (2 + 11) + lo ≤ lo + 30; omega)⟩) (cPre_V (ci := 5) (q0 := 0) (hK.sub [0, 1] rfl) hmb (wP_right (w1 := [(o, .inl (cJ, 1, .inr (.inl f)))]) hP) (wD_right (w1 := [(o, .inl (cJ, 1, .inr (.inl f)))]) hD) rfl hr) rfl rfl hl.1 rfl (lv_room (Nat.le_of_ble_eq_true rfl)) dLaw_stream_4 ⟨Nat.le_refl _, Nat.le_refl _⟩) (fun r u H locs hw hP hD hS => ?_)
  subst hw
  refine lv_i2l hx hb dLaw_stream_7 rfl ?_
  refine va_last hx hb hK hP hD hS 0 2 rfl rfl (by unfold vp_in; decide) dLaw_stream_8 (fun H locs hP hD hS => ?_)
  refine lv_goto (tgt := 15) hx hb dLaw_stream_9 (by decide) ?_
  refine lv_iconst (v := 0) hx hb dLaw_stream_15 (by decide) ?_
  exact e_i u hx hb hr0 hlk (hK.sub [0, 1] rfl) hP hD hS rfl rfl dLaw_stream_16
set_option maxRecDepth 100000 in
theorem h_stream_1 {l : Launch} {D : va_G} {cF cI cJ cD : ClassId} {W W1 : va_W} {x0 : Nat} {fs : List Value} (n : Int32) (hr : W[0]? = some (x0, .inr (5, fs))) (hC : XI l D cF cI yVF_stream (.code yVF_stream cVF_stream 2 (some .int)) [.ref x0, .int n] W "java/lang/IndexOutOfBoundsException" W1) (o : Nat) (f : Nat → Int64) (v : Int32) : HJ l D cF cI cJ cD yLaw_stream (.codeWith yLaw_stream cLaw_stream 4 (some .int) [(0, 9, 12, 21)]) [.ref x0, .int n, .ref o] W o f 1 v (fun z => z = W1) := by
  obtain ⟨fr, lo, hfr, hlo, hM⟩ := hC
  refine ⟨Unit, fun _ => (o, .inl (cJ, 1, .inr (.inl f))) :: W1, fr + 1, 1, 6, lo + 30, by omega, by omega, by omega, by omega, fun u => ⟨_, _, rfl, fun h => absurd h (by decide), rfl⟩, fun sz => ?_⟩
  refine h_ofW (own := RLaw) (by decide) rfl (fun p e s m below meth c hsz hx hb hr0 hml hown ht hlk hP hK hD hmb hex hZ hmx => ?_)
  subst hsz
  generalize hAe : va_A ((o, .inl (cJ, 1, .inr (.inl f))) :: W) s.heap.size = A at hD hZ ⊢
  have hA : ∀ q : Nat, s.heap.size ≤ q → A q := fun q h => by rw [← hAe]; exact Or.inr h
  have hS : va_S A s.heap s.heap [] := va_S.rf
  have hl := lv_entry ([.ref x0, .int n, .ref o]) (n := 4) (Nat.le_of_ble_eq_true rfl)
  rw [lg_entry_eq]
  generalize (lg_sl ([.ref x0, .int n, .ref o]) ++ List.replicate (4 - (lg_sl ([.ref x0, .int n, .ref o])).length) Slot.unset).toArray = ls at hl ⊢
  have hl : lv_has ls 4 [(0, .ref x0), (1, .int n), (2, .ref o)] := hl
  refine lv_aload_n hx hb dLaw_stream_0 rfl (lv_at hl 2 rfl) ?_
  refine lv_iconst (v := 0) hx hb dLaw_stream_1 (by decide) ?_
  refine lv_aload_n hx hb dLaw_stream_2 rfl (lv_at hl 0 rfl) ?_
  refine lv_iload_n hx hb dLaw_stream_3 rfl (lv_at hl 1 rfl) ?_
  have hF := freeA (wr := [(o, .inl (cJ, 1, .inr (.inl f)))]) (wc := W) hD hS hA
  refine qx_i (wr := [(o, .inl (cJ, 1, .inr (.inl f)))]) (wc := W) hP hD hS hA (vx_runV (As := [.int n]) (rest := [.int 0, .ref o]) ⟨hx, hb, hml, hown, ht⟩ (hM s.heap.size) (cwV 1 ht (g_V km_Law_36 ki_VF_stream kv_VF_stream kI_VF kc_VF_stream) rfl rfl rfl (by decide +kernel) ⟨Nat.le_refl (fr + 1), (by show 8 + (2 + 11) + lo ≤ lo + 30; omega)⟩) (xPre_V (ci := 5) (q0 := 0) (hK.sub [0, 1] rfl) hmb hmx hZ hS hF (wP_right (w1 := [(o, .inl (cJ, 1, .inr (.inl f)))]) hP) (wD_right (w1 := [(o, .inl (cJ, 1, .inr (.inl f)))]) hD) rfl hr) rfl rfl hl.1 rfl (lv_room (Nat.le_of_ble_eq_true rfl)) dLaw_stream_4 ⟨Nat.le_refl _, Nat.le_refl _⟩) (fun ce q9 H locs hP hD hS hc9 hv9 hcl9 => ?_)
  refine vx_catch (own := RLaw) (name := "java/lang/IndexOutOfBoundsException") (E := "java/lang/IndexOutOfBoundsException") hown [] ⟨0, 9, 12, 21⟩ [] hex (fun z hz => nomatch hz) rfl (by decide) (ht _ kl_Law_21) (va_Nw.use rfl (hmx.1 _ (List.mem_of_getElem? (i := 5) rfl))) hc9 hv9 hcl9 ?_
  refine lv_astore_n (lv' := [(3, .ref q9), (0, .ref x0), (1, .int n), (2, .ref o)]) hx hb dLaw_stream_12 rfl hl (by decide) rfl (fun ls hl => ?_)
  refine lv_iconst (v := 1) hx hb dLaw_stream_13 (by decide) ?_
  exact e_i () hx hb hr0 hlk (hK.sub [0, 1] rfl) hP hD hS rfl rfl dLaw_stream_14
set_option maxRecDepth 100000 in
theorem h_damage_R {l : Launch} {D : va_G} {cF cI cJ cD : ClassId} {W : va_W} {x0 : Nat} {fs : List Value} {v : Int32} {P : va_W → Prop} (n : Int32) (b : Int32) (hr : W[0]? = some (x0, .inr (5, fs))) (hC : CI l D cF cI yVF_damage (.code yVF_damage cVF_damage 4 (some .int)) [.ref x0, .int n, .int b] W v P) (o : Nat) (f : Nat → Int64) : HJ l D cF cI cJ cD yLaw_damage (.codeWith yLaw_damage cLaw_damage 5 (some .int) [(0, 10, 13, 13), (0, 10, 17, 21)]) [.ref x0, .int n, .int b, .ref o] W o f 0 v P := by
  obtain ⟨S, w, fr, lo, hfr, hlo, hPw, hM⟩ := hC
  refine ⟨S, fun u => (o, .inl (cJ, 1, .inr (.inl (vp_updL f 0 v.toInt64)))) :: w u, fr + 1, 0, 0, lo + 30, by omega, by omega, by omega, by omega, fun u => ⟨_, _, hPw u, fun _ => if_pos rfl, rfl⟩, fun sz => ?_⟩
  refine h_ofW (own := RLaw) (by decide) rfl (fun p e s m below meth c hsz hx hb hr0 hml hown ht hlk hP hK hD hmb hex hZ hmx => ?_)
  subst hsz
  generalize hAe : va_A ((o, .inl (cJ, 1, .inr (.inl f))) :: W) s.heap.size = A at hD hZ ⊢
  have hA : ∀ q : Nat, s.heap.size ≤ q → A q := fun q h => by rw [← hAe]; exact Or.inr h
  have hS : va_S A s.heap s.heap [] := va_S.rf
  have hl := lv_entry ([.ref x0, .int n, .int b, .ref o]) (n := 5) (Nat.le_of_ble_eq_true rfl)
  rw [lg_entry_eq]
  generalize (lg_sl ([.ref x0, .int n, .int b, .ref o]) ++ List.replicate (5 - (lg_sl ([.ref x0, .int n, .int b, .ref o])).length) Slot.unset).toArray = ls at hl ⊢
  have hl : lv_has ls 5 [(0, .ref x0), (1, .int n), (2, .int b), (3, .ref o)] := hl
  refine lv_aload_n hx hb dLaw_damage_0 rfl (lv_at hl 3 rfl) ?_
  refine lv_iconst (v := 0) hx hb dLaw_damage_1 (by decide) ?_
  refine lv_aload_n hx hb dLaw_damage_2 rfl (lv_at hl 0 rfl) ?_
  refine lv_iload_n hx hb dLaw_damage_3 rfl (lv_at hl 1 rfl) ?_
  refine lv_iload_n hx hb dLaw_damage_4 rfl (lv_at hl 2 rfl) ?_
  refine qa_i (wr := [(o, .inl (cJ, 1, .inr (.inl f)))]) (wc := W) hP hD hS hA (va_runV (As := [.int n, .int b]) (rest := [.int 0, .ref o]) ⟨hx, hb, hml, hown, ht⟩ (hM s.heap.size) (cwV 2 ht (g_V km_Law_39 ki_VF_damage kv_VF_damage kI_VF kc_VF_damage) rfl rfl rfl (by decide +kernel) ⟨Nat.le_refl (fr + 1), (by show 8 + (4 + 11) + lo ≤ lo + 30; omega)⟩) (cPre_V (ci := 5) (q0 := 0) (hK.sub [0, 1] rfl) hmb (wP_right (w1 := [(o, .inl (cJ, 1, .inr (.inl f)))]) hP) (wD_right (w1 := [(o, .inl (cJ, 1, .inr (.inl f)))]) hD) rfl hr) rfl rfl hl.1 rfl (lv_room (Nat.le_of_ble_eq_true rfl)) dLaw_damage_5 ⟨Nat.le_refl _, Nat.le_refl _⟩) (fun r u H locs hw hP hD hS => ?_)
  subst hw
  refine lv_i2l hx hb dLaw_damage_8 rfl ?_
  refine va_last hx hb hK hP hD hS 0 2 rfl rfl (by unfold vp_in; decide) dLaw_damage_9 (fun H locs hP hD hS => ?_)
  refine lv_goto (tgt := 21) hx hb dLaw_damage_10 (by decide) ?_
  refine lv_iconst (v := 0) hx hb dLaw_damage_21 (by decide) ?_
  exact e_i u hx hb hr0 hlk (hK.sub [0, 1] rfl) hP hD hS rfl rfl dLaw_damage_22
set_option maxRecDepth 100000 in
theorem h_damage_1 {l : Launch} {D : va_G} {cF cI cJ cD : ClassId} {W W1 : va_W} {x0 : Nat} {fs : List Value} (n : Int32) (b : Int32) (hr : W[0]? = some (x0, .inr (5, fs))) (hC : XI l D cF cI yVF_damage (.code yVF_damage cVF_damage 4 (some .int)) [.ref x0, .int n, .int b] W "java/lang/IllegalArgumentException" W1) (o : Nat) (f : Nat → Int64) (v : Int32) : HJ l D cF cI cJ cD yLaw_damage (.codeWith yLaw_damage cLaw_damage 5 (some .int) [(0, 10, 13, 13), (0, 10, 17, 21)]) [.ref x0, .int n, .int b, .ref o] W o f 1 v (fun z => z = W1) := by
  obtain ⟨fr, lo, hfr, hlo, hM⟩ := hC
  refine ⟨Unit, fun _ => (o, .inl (cJ, 1, .inr (.inl f))) :: W1, fr + 1, 1, 6, lo + 30, by omega, by omega, by omega, by omega, fun u => ⟨_, _, rfl, fun h => absurd h (by decide), rfl⟩, fun sz => ?_⟩
  refine h_ofW (own := RLaw) (by decide) rfl (fun p e s m below meth c hsz hx hb hr0 hml hown ht hlk hP hK hD hmb hex hZ hmx => ?_)
  subst hsz
  generalize hAe : va_A ((o, .inl (cJ, 1, .inr (.inl f))) :: W) s.heap.size = A at hD hZ ⊢
  have hA : ∀ q : Nat, s.heap.size ≤ q → A q := fun q h => by rw [← hAe]; exact Or.inr h
  have hS : va_S A s.heap s.heap [] := va_S.rf
  have hl := lv_entry ([.ref x0, .int n, .int b, .ref o]) (n := 5) (Nat.le_of_ble_eq_true rfl)
  rw [lg_entry_eq]
  generalize (lg_sl ([.ref x0, .int n, .int b, .ref o]) ++ List.replicate (5 - (lg_sl ([.ref x0, .int n, .int b, .ref o])).length) Slot.unset).toArray = ls at hl ⊢
  have hl : lv_has ls 5 [(0, .ref x0), (1, .int n), (2, .int b), (3, .ref o)] := hl
  refine lv_aload_n hx hb dLaw_damage_0 rfl (lv_at hl 3 rfl) ?_
  refine lv_iconst (v := 0) hx hb dLaw_damage_1 (by decide) ?_
  refine lv_aload_n hx hb dLaw_damage_2 rfl (lv_at hl 0 rfl) ?_
  refine lv_iload_n hx hb dLaw_damage_3 rfl (lv_at hl 1 rfl) ?_
  refine lv_iload_n hx hb dLaw_damage_4 rfl (lv_at hl 2 rfl) ?_
  have hF := freeA (wr := [(o, .inl (cJ, 1, .inr (.inl f)))]) (wc := W) hD hS hA
  refine qx_i (wr := [(o, .inl (cJ, 1, .inr (.inl f)))]) (wc := W) hP hD hS hA (vx_runV (As := [.int n, .int b]) (rest := [.int 0, .ref o]) ⟨hx, hb, hml, hown, ht⟩ (hM s.heap.size) (cwV 2 ht (g_V km_Law_39 ki_VF_damage kv_VF_damage kI_VF kc_VF_damage) rfl rfl rfl (by decide +kernel) ⟨Nat.le_refl (fr + 1), (by show 8 + (4 + 11) + lo ≤ lo + 30; omega)⟩) (xPre_V (ci := 5) (q0 := 0) (hK.sub [0, 1] rfl) hmb hmx hZ hS hF (wP_right (w1 := [(o, .inl (cJ, 1, .inr (.inl f)))]) hP) (wD_right (w1 := [(o, .inl (cJ, 1, .inr (.inl f)))]) hD) rfl hr) rfl rfl hl.1 rfl (lv_room (Nat.le_of_ble_eq_true rfl)) dLaw_damage_5 ⟨Nat.le_refl _, Nat.le_refl _⟩) (fun ce q9 H locs hP hD hS hc9 hv9 hcl9 => ?_)
  refine vx_catch (own := RLaw) (name := "java/lang/IllegalArgumentException") (E := "java/lang/IllegalArgumentException") hown [] ⟨0, 10, 13, 13⟩ [⟨0, 10, 17, 21⟩] hex (fun z hz => nomatch hz) rfl (by decide) (ht _ kl_Law_13) (va_Nw.use rfl (hmx.1 _ (List.mem_of_getElem? (i := 3) rfl))) hc9 hv9 hcl9 ?_
  refine lv_astore (lv' := [(4, .ref q9), (0, .ref x0), (1, .int n), (2, .int b), (3, .ref o)]) hx hb dLaw_damage_13 hl (by decide) rfl (fun ls hl => ?_)
  refine lv_iconst (v := 1) hx hb dLaw_damage_15 (by decide) ?_
  exact e_i () hx hb hr0 hlk (hK.sub [0, 1] rfl) hP hD hS rfl rfl dLaw_damage_16
set_option maxRecDepth 100000 in
theorem h_damage_2 {l : Launch} {D : va_G} {cF cI cJ cD : ClassId} {W W1 : va_W} {x0 : Nat} {fs : List Value} (n : Int32) (b : Int32) (hr : W[0]? = some (x0, .inr (5, fs))) (hC : XI l D cF cI yVF_damage (.code yVF_damage cVF_damage 4 (some .int)) [.ref x0, .int n, .int b] W "java/lang/IndexOutOfBoundsException" W1) (o : Nat) (f : Nat → Int64) (v : Int32) : HJ l D cF cI cJ cD yLaw_damage (.codeWith yLaw_damage cLaw_damage 5 (some .int) [(0, 10, 13, 13), (0, 10, 17, 21)]) [.ref x0, .int n, .int b, .ref o] W o f 2 v (fun z => z = W1) := by
  obtain ⟨fr, lo, hfr, hlo, hM⟩ := hC
  refine ⟨Unit, fun _ => (o, .inl (cJ, 1, .inr (.inl f))) :: W1, fr + 1, 1, 6, lo + 30, by omega, by omega, by omega, by omega, fun u => ⟨_, _, rfl, fun h => absurd h (by decide), rfl⟩, fun sz => ?_⟩
  refine h_ofW (own := RLaw) (by decide) rfl (fun p e s m below meth c hsz hx hb hr0 hml hown ht hlk hP hK hD hmb hex hZ hmx => ?_)
  subst hsz
  generalize hAe : va_A ((o, .inl (cJ, 1, .inr (.inl f))) :: W) s.heap.size = A at hD hZ ⊢
  have hA : ∀ q : Nat, s.heap.size ≤ q → A q := fun q h => by rw [← hAe]; exact Or.inr h
  have hS : va_S A s.heap s.heap [] := va_S.rf
  have hl := lv_entry ([.ref x0, .int n, .int b, .ref o]) (n := 5) (Nat.le_of_ble_eq_true rfl)
  rw [lg_entry_eq]
  generalize (lg_sl ([.ref x0, .int n, .int b, .ref o]) ++ List.replicate (5 - (lg_sl ([.ref x0, .int n, .int b, .ref o])).length) Slot.unset).toArray = ls at hl ⊢
  have hl : lv_has ls 5 [(0, .ref x0), (1, .int n), (2, .int b), (3, .ref o)] := hl
  refine lv_aload_n hx hb dLaw_damage_0 rfl (lv_at hl 3 rfl) ?_
  refine lv_iconst (v := 0) hx hb dLaw_damage_1 (by decide) ?_
  refine lv_aload_n hx hb dLaw_damage_2 rfl (lv_at hl 0 rfl) ?_
  refine lv_iload_n hx hb dLaw_damage_3 rfl (lv_at hl 1 rfl) ?_
  refine lv_iload_n hx hb dLaw_damage_4 rfl (lv_at hl 2 rfl) ?_
  have hF := freeA (wr := [(o, .inl (cJ, 1, .inr (.inl f)))]) (wc := W) hD hS hA
  refine qx_i (wr := [(o, .inl (cJ, 1, .inr (.inl f)))]) (wc := W) hP hD hS hA (vx_runV (As := [.int n, .int b]) (rest := [.int 0, .ref o]) ⟨hx, hb, hml, hown, ht⟩ (hM s.heap.size) (cwV 2 ht (g_V km_Law_39 ki_VF_damage kv_VF_damage kI_VF kc_VF_damage) rfl rfl rfl (by decide +kernel) ⟨Nat.le_refl (fr + 1), (by show 8 + (4 + 11) + lo ≤ lo + 30; omega)⟩) (xPre_V (ci := 5) (q0 := 0) (hK.sub [0, 1] rfl) hmb hmx hZ hS hF (wP_right (w1 := [(o, .inl (cJ, 1, .inr (.inl f)))]) hP) (wD_right (w1 := [(o, .inl (cJ, 1, .inr (.inl f)))]) hD) rfl hr) rfl rfl hl.1 rfl (lv_room (Nat.le_of_ble_eq_true rfl)) dLaw_damage_5 ⟨Nat.le_refl _, Nat.le_refl _⟩) (fun ce q9 H locs hP hD hS hc9 hv9 hcl9 => ?_)
  refine vx_catch (own := RLaw) (name := "java/lang/IndexOutOfBoundsException") (E := "java/lang/IndexOutOfBoundsException") hown [⟨0, 10, 13, 13⟩] ⟨0, 10, 17, 21⟩ [] hex (fun z hz => by rcases List.mem_singleton.mp hz with rfl; exact Or.inr ⟨by decide, "java/lang/IllegalArgumentException", ht _ kl_Law_13, hmx.2 _ (List.mem_of_getElem? (i := 3) rfl)⟩) rfl (by decide) (ht _ kl_Law_21) (va_Nw.use rfl (hmx.1 _ (List.mem_of_getElem? (i := 5) rfl))) hc9 hv9 hcl9 ?_
  refine lv_astore (lv' := [(4, .ref q9), (0, .ref x0), (1, .int n), (2, .int b), (3, .ref o)]) hx hb dLaw_damage_17 hl (by decide) rfl (fun ls hl => ?_)
  refine lv_iconst (v := 2) hx hb dLaw_damage_19 (by decide) ?_
  exact e_i () hx hb hr0 hlk (hK.sub [0, 1] rfl) hP hD hS rfl rfl dLaw_damage_20
set_option maxRecDepth 100000 in
theorem h_cut_R {l : Launch} {D : va_G} {cF cI cJ cD : ClassId} {W : va_W} {x0 : Nat} {fs : List Value} {v : Int32} {P : va_W → Prop} (n : Int32) (hr : W[0]? = some (x0, .inr (5, fs))) (hC : CI l D cF cI yVF_cut (.code yVF_cut cVF_cut 2 (some .int)) [.ref x0, .int n] W v P) (o : Nat) (f : Nat → Int64) : HJ l D cF cI cJ cD yLaw_cut (.codeWith yLaw_cut cLaw_cut 4 (some .int) [(0, 9, 12, 13)]) [.ref x0, .int n, .ref o] W o f 0 v P := by
  obtain ⟨S, w, fr, lo, hfr, hlo, hPw, hM⟩ := hC
  refine ⟨S, fun u => (o, .inl (cJ, 1, .inr (.inl (vp_updL f 0 v.toInt64)))) :: w u, fr + 1, 0, 0, lo + 30, by omega, by omega, by omega, by omega, fun u => ⟨_, _, hPw u, fun _ => if_pos rfl, rfl⟩, fun sz => ?_⟩
  refine h_ofW (own := RLaw) (by decide) rfl (fun p e s m below meth c hsz hx hb hr0 hml hown ht hlk hP hK hD hmb hex hZ hmx => ?_)
  subst hsz
  generalize hAe : va_A ((o, .inl (cJ, 1, .inr (.inl f))) :: W) s.heap.size = A at hD hZ ⊢
  have hA : ∀ q : Nat, s.heap.size ≤ q → A q := fun q h => by rw [← hAe]; exact Or.inr h
  have hS : va_S A s.heap s.heap [] := va_S.rf
  have hl := lv_entry ([.ref x0, .int n, .ref o]) (n := 4) (Nat.le_of_ble_eq_true rfl)
  rw [lg_entry_eq]
  generalize (lg_sl ([.ref x0, .int n, .ref o]) ++ List.replicate (4 - (lg_sl ([.ref x0, .int n, .ref o])).length) Slot.unset).toArray = ls at hl ⊢
  have hl : lv_has ls 4 [(0, .ref x0), (1, .int n), (2, .ref o)] := hl
  refine lv_aload_n hx hb dLaw_cut_0 rfl (lv_at hl 2 rfl) ?_
  refine lv_iconst (v := 0) hx hb dLaw_cut_1 (by decide) ?_
  refine lv_aload_n hx hb dLaw_cut_2 rfl (lv_at hl 0 rfl) ?_
  refine lv_iload_n hx hb dLaw_cut_3 rfl (lv_at hl 1 rfl) ?_
  refine qa_i (wr := [(o, .inl (cJ, 1, .inr (.inl f)))]) (wc := W) hP hD hS hA (va_runV (As := [.int n]) (rest := [.int 0, .ref o]) ⟨hx, hb, hml, hown, ht⟩ (hM s.heap.size) (cwV 1 ht (g_V km_Law_43 ki_VF_cut kv_VF_cut kI_VF kc_VF_cut) rfl rfl rfl (by decide +kernel) ⟨Nat.le_refl (fr + 1), (by show 8 + (2 + 11) + lo ≤ lo + 30; omega)⟩) (cPre_V (ci := 5) (q0 := 0) (hK.sub [0, 1] rfl) hmb (wP_right (w1 := [(o, .inl (cJ, 1, .inr (.inl f)))]) hP) (wD_right (w1 := [(o, .inl (cJ, 1, .inr (.inl f)))]) hD) rfl hr) rfl rfl hl.1 rfl (lv_room (Nat.le_of_ble_eq_true rfl)) dLaw_cut_4 ⟨Nat.le_refl _, Nat.le_refl _⟩) (fun r u H locs hw hP hD hS => ?_)
  subst hw
  refine lv_i2l hx hb dLaw_cut_7 rfl ?_
  refine va_last hx hb hK hP hD hS 0 2 rfl rfl (by unfold vp_in; decide) dLaw_cut_8 (fun H locs hP hD hS => ?_)
  refine lv_goto (tgt := 15) hx hb dLaw_cut_9 (by decide) ?_
  refine lv_iconst (v := 0) hx hb dLaw_cut_15 (by decide) ?_
  exact e_i u hx hb hr0 hlk (hK.sub [0, 1] rfl) hP hD hS rfl rfl dLaw_cut_16
set_option maxRecDepth 100000 in
theorem h_cut_1 {l : Launch} {D : va_G} {cF cI cJ cD : ClassId} {W W1 : va_W} {x0 : Nat} {fs : List Value} (n : Int32) (hr : W[0]? = some (x0, .inr (5, fs))) (hC : XI l D cF cI yVF_cut (.code yVF_cut cVF_cut 2 (some .int)) [.ref x0, .int n] W "java/lang/IllegalArgumentException" W1) (o : Nat) (f : Nat → Int64) (v : Int32) : HJ l D cF cI cJ cD yLaw_cut (.codeWith yLaw_cut cLaw_cut 4 (some .int) [(0, 9, 12, 13)]) [.ref x0, .int n, .ref o] W o f 1 v (fun z => z = W1) := by
  obtain ⟨fr, lo, hfr, hlo, hM⟩ := hC
  refine ⟨Unit, fun _ => (o, .inl (cJ, 1, .inr (.inl f))) :: W1, fr + 1, 1, 6, lo + 30, by omega, by omega, by omega, by omega, fun u => ⟨_, _, rfl, fun h => absurd h (by decide), rfl⟩, fun sz => ?_⟩
  refine h_ofW (own := RLaw) (by decide) rfl (fun p e s m below meth c hsz hx hb hr0 hml hown ht hlk hP hK hD hmb hex hZ hmx => ?_)
  subst hsz
  generalize hAe : va_A ((o, .inl (cJ, 1, .inr (.inl f))) :: W) s.heap.size = A at hD hZ ⊢
  have hA : ∀ q : Nat, s.heap.size ≤ q → A q := fun q h => by rw [← hAe]; exact Or.inr h
  have hS : va_S A s.heap s.heap [] := va_S.rf
  have hl := lv_entry ([.ref x0, .int n, .ref o]) (n := 4) (Nat.le_of_ble_eq_true rfl)
  rw [lg_entry_eq]
  generalize (lg_sl ([.ref x0, .int n, .ref o]) ++ List.replicate (4 - (lg_sl ([.ref x0, .int n, .ref o])).length) Slot.unset).toArray = ls at hl ⊢
  have hl : lv_has ls 4 [(0, .ref x0), (1, .int n), (2, .ref o)] := hl
  refine lv_aload_n hx hb dLaw_cut_0 rfl (lv_at hl 2 rfl) ?_
  refine lv_iconst (v := 0) hx hb dLaw_cut_1 (by decide) ?_
  refine lv_aload_n hx hb dLaw_cut_2 rfl (lv_at hl 0 rfl) ?_
  refine lv_iload_n hx hb dLaw_cut_3 rfl (lv_at hl 1 rfl) ?_
  have hF := freeA (wr := [(o, .inl (cJ, 1, .inr (.inl f)))]) (wc := W) hD hS hA
  refine qx_i (wr := [(o, .inl (cJ, 1, .inr (.inl f)))]) (wc := W) hP hD hS hA (vx_runV (As := [.int n]) (rest := [.int 0, .ref o]) ⟨hx, hb, hml, hown, ht⟩ (hM s.heap.size) (cwV 1 ht (g_V km_Law_43 ki_VF_cut kv_VF_cut kI_VF kc_VF_cut) rfl rfl rfl (by decide +kernel) ⟨Nat.le_refl (fr + 1), (by show 8 + (2 + 11) + lo ≤ lo + 30; omega)⟩) (xPre_V (ci := 5) (q0 := 0) (hK.sub [0, 1] rfl) hmb hmx hZ hS hF (wP_right (w1 := [(o, .inl (cJ, 1, .inr (.inl f)))]) hP) (wD_right (w1 := [(o, .inl (cJ, 1, .inr (.inl f)))]) hD) rfl hr) rfl rfl hl.1 rfl (lv_room (Nat.le_of_ble_eq_true rfl)) dLaw_cut_4 ⟨Nat.le_refl _, Nat.le_refl _⟩) (fun ce q9 H locs hP hD hS hc9 hv9 hcl9 => ?_)
  refine vx_catch (own := RLaw) (name := "java/lang/IllegalArgumentException") (E := "java/lang/IllegalArgumentException") hown [] ⟨0, 9, 12, 13⟩ [] hex (fun z hz => nomatch hz) rfl (by decide) (ht _ kl_Law_13) (va_Nw.use rfl (hmx.1 _ (List.mem_of_getElem? (i := 3) rfl))) hc9 hv9 hcl9 ?_
  refine lv_astore_n (lv' := [(3, .ref q9), (0, .ref x0), (1, .int n), (2, .ref o)]) hx hb dLaw_cut_12 rfl hl (by decide) rfl (fun ls hl => ?_)
  refine lv_iconst (v := 1) hx hb dLaw_cut_13 (by decide) ?_
  exact e_i () hx hb hr0 hlk (hK.sub [0, 1] rfl) hP hD hS rfl rfl dLaw_cut_14
set_option maxRecDepth 100000 in
theorem h_apart_R {l : Launch} {D : va_G} {cF cI cJ cD : ClassId} {W : va_W} {x0 : Nat} {fs : List Value} {v : UInt64} {P : va_W → Prop} (hr : W[0]? = some (x0, .inr (5, fs))) (hC : CD l D cF cI yVF_apart (.code yVF_apart cVF_apart 5 (some .double)) [.ref x0] W v P) (o : Nat) (f : Nat → UInt64) : HD l D cF cI cJ cD yLaw_apart (.codeWith yLaw_apart cLaw_apart 3 (some .int) [(0, 7, 10, 15)]) [.ref x0, .ref o] W o f 0 v P := by
  obtain ⟨S, w, fr, lo, hfr, hlo, hPw, hM⟩ := hC
  refine ⟨S, fun u => (o, .inl (cD, 1, .inr (.inr (.inr (.inl (vf_upd f 0 v)))))) :: w u, fr + 1, 0, 0, lo + 30, by omega, by omega, by omega, by omega, fun u => ⟨_, _, hPw u, fun _ => if_pos rfl, rfl⟩, fun sz => ?_⟩
  refine h_ofW (own := RLaw) (by decide) rfl (fun p e s m below meth c hsz hx hb hr0 hml hown ht hlk hP hK hD hmb hex hZ hmx => ?_)
  subst hsz
  generalize hAe : va_A ((o, .inl (cD, 1, .inr (.inr (.inr (.inl f))))) :: W) s.heap.size = A at hD hZ ⊢
  have hA : ∀ q : Nat, s.heap.size ≤ q → A q := fun q h => by rw [← hAe]; exact Or.inr h
  have hS : va_S A s.heap s.heap [] := va_S.rf
  have hl := lv_entry ([.ref x0, .ref o]) (n := 3) (Nat.le_of_ble_eq_true rfl)
  rw [lg_entry_eq]
  generalize (lg_sl ([.ref x0, .ref o]) ++ List.replicate (3 - (lg_sl ([.ref x0, .ref o])).length) Slot.unset).toArray = ls at hl ⊢
  have hl : lv_has ls 3 [(0, .ref x0), (1, .ref o)] := hl
  refine lv_aload_n hx hb dLaw_apart_0 rfl (lv_at hl 1 rfl) ?_
  refine lv_iconst (v := 0) hx hb dLaw_apart_1 (by decide) ?_
  refine lv_aload_n hx hb dLaw_apart_2 rfl (lv_at hl 0 rfl) ?_
  refine qa_d (wr := [(o, .inl (cD, 1, .inr (.inr (.inr (.inl f)))))]) (wc := W) hP hD hS hA (va_runV (As := []) (rest := [.int 0, .ref o]) ⟨hx, hb, hml, hown, ht⟩ (hM s.heap.size) (cwV 0 ht (g_V km_Law_46 ki_VF_apart kv_VF_apart kI_VF kc_VF_apart) rfl rfl rfl (by decide +kernel) ⟨Nat.le_refl (fr + 1), (by show 8 + (5 + 11) + lo ≤ lo + 30; omega)⟩) (cPre_V (ci := 5) (q0 := 0) (hK.sub [0, 1] rfl) hmb (wP_right (w1 := [(o, .inl (cD, 1, .inr (.inr (.inr (.inl f)))))]) hP) (wD_right (w1 := [(o, .inl (cD, 1, .inr (.inr (.inr (.inl f)))))]) hD) rfl hr) rfl rfl hl.1 rfl (lv_room (Nat.le_of_ble_eq_true rfl)) dLaw_apart_3 ⟨Nat.le_refl _, Nat.le_refl _⟩) (fun r u H locs hw hP hD hS => ?_)
  subst hw
  refine va_dast hx hb hK hP hD hS 0 3 rfl rfl (by unfold vp_in; decide) dLaw_apart_6 (fun H locs hP hD hS => ?_)
  refine lv_goto (tgt := 13) hx hb dLaw_apart_7 (by decide) ?_
  refine lv_iconst (v := 0) hx hb dLaw_apart_13 (by decide) ?_
  exact e_i u hx hb hr0 hlk (hK.sub [0, 1] rfl) hP hD hS rfl rfl dLaw_apart_14
set_option maxRecDepth 100000 in
theorem h_apart_1 {l : Launch} {D : va_G} {cF cI cJ cD : ClassId} {W W1 : va_W} {x0 : Nat} {fs : List Value} (hr : W[0]? = some (x0, .inr (5, fs))) (hC : XD l D cF cI yVF_apart (.code yVF_apart cVF_apart 5 (some .double)) [.ref x0] W "java/lang/IllegalStateException" W1) (o : Nat) (f : Nat → UInt64) (v : UInt64) : HD l D cF cI cJ cD yLaw_apart (.codeWith yLaw_apart cLaw_apart 3 (some .int) [(0, 7, 10, 15)]) [.ref x0, .ref o] W o f 1 v (fun z => z = W1) := by
  obtain ⟨fr, lo, hfr, hlo, hM⟩ := hC
  refine ⟨Unit, fun _ => (o, .inl (cD, 1, .inr (.inr (.inr (.inl f))))) :: W1, fr + 1, 1, 6, lo + 30, by omega, by omega, by omega, by omega, fun u => ⟨_, _, rfl, fun h => absurd h (by decide), rfl⟩, fun sz => ?_⟩
  refine h_ofW (own := RLaw) (by decide) rfl (fun p e s m below meth c hsz hx hb hr0 hml hown ht hlk hP hK hD hmb hex hZ hmx => ?_)
  subst hsz
  generalize hAe : va_A ((o, .inl (cD, 1, .inr (.inr (.inr (.inl f))))) :: W) s.heap.size = A at hD hZ ⊢
  have hA : ∀ q : Nat, s.heap.size ≤ q → A q := fun q h => by rw [← hAe]; exact Or.inr h
  have hS : va_S A s.heap s.heap [] := va_S.rf
  have hl := lv_entry ([.ref x0, .ref o]) (n := 3) (Nat.le_of_ble_eq_true rfl)
  rw [lg_entry_eq]
  generalize (lg_sl ([.ref x0, .ref o]) ++ List.replicate (3 - (lg_sl ([.ref x0, .ref o])).length) Slot.unset).toArray = ls at hl ⊢
  have hl : lv_has ls 3 [(0, .ref x0), (1, .ref o)] := hl
  refine lv_aload_n hx hb dLaw_apart_0 rfl (lv_at hl 1 rfl) ?_
  refine lv_iconst (v := 0) hx hb dLaw_apart_1 (by decide) ?_
  refine lv_aload_n hx hb dLaw_apart_2 rfl (lv_at hl 0 rfl) ?_
  have hF := freeA (wr := [(o, .inl (cD, 1, .inr (.inr (.inr (.inl f)))))]) (wc := W) hD hS hA
  refine qx_d (wr := [(o, .inl (cD, 1, .inr (.inr (.inr (.inl f)))))]) (wc := W) hP hD hS hA (vx_runV (As := []) (rest := [.int 0, .ref o]) ⟨hx, hb, hml, hown, ht⟩ (hM s.heap.size) (cwV 0 ht (g_V km_Law_46 ki_VF_apart kv_VF_apart kI_VF kc_VF_apart) rfl rfl rfl (by decide +kernel) ⟨Nat.le_refl (fr + 1), (by show 8 + (5 + 11) + lo ≤ lo + 30; omega)⟩) (xPre_V (ci := 5) (q0 := 0) (hK.sub [0, 1] rfl) hmb hmx hZ hS hF (wP_right (w1 := [(o, .inl (cD, 1, .inr (.inr (.inr (.inl f)))))]) hP) (wD_right (w1 := [(o, .inl (cD, 1, .inr (.inr (.inr (.inl f)))))]) hD) rfl hr) rfl rfl hl.1 rfl (lv_room (Nat.le_of_ble_eq_true rfl)) dLaw_apart_3 ⟨Nat.le_refl _, Nat.le_refl _⟩) (fun ce q9 H locs hP hD hS hc9 hv9 hcl9 => ?_)
  refine vx_catch (own := RLaw) (name := "java/lang/IllegalStateException") (E := "java/lang/IllegalStateException") hown [] ⟨0, 7, 10, 15⟩ [] hex (fun z hz => nomatch hz) rfl (by decide) (ht _ kl_Law_15) (va_Nw.use rfl (hmx.1 _ (List.mem_of_getElem? (i := 4) rfl))) hc9 hv9 hcl9 ?_
  refine lv_astore_n (lv' := [(2, .ref q9), (0, .ref x0), (1, .ref o)]) hx hb dLaw_apart_10 rfl hl (by decide) rfl (fun ls hl => ?_)
  refine lv_iconst (v := 1) hx hb dLaw_apart_11 (by decide) ?_
  exact e_i () hx hb hr0 hlk (hK.sub [0, 1] rfl) hP hD hS rfl rfl dLaw_apart_12
set_option maxRecDepth 100000 in
theorem h_count_R {l : Launch} {D : va_G} {cF cI cJ cD : ClassId} {W : va_W} {x0 : Nat} {fs : List Value} {v : Int32} {P : va_W → Prop} (n : Int32) (hr : W[0]? = some (x0, .inr (5, fs))) (hC : CI l D cF cI yVF_count (.code yVF_count cVF_count 2 (some .int)) [.ref x0, .int n] W v P) (o : Nat) (f : Nat → Int64) : HJ l D cF cI cJ cD yLaw_count (.codeWith yLaw_count cLaw_count 4 (some .int) [(0, 9, 12, 13)]) [.ref x0, .int n, .ref o] W o f 0 v P := by
  obtain ⟨S, w, fr, lo, hfr, hlo, hPw, hM⟩ := hC
  refine ⟨S, fun u => (o, .inl (cJ, 1, .inr (.inl (vp_updL f 0 v.toInt64)))) :: w u, fr + 1, 0, 0, lo + 30, by omega, by omega, by omega, by omega, fun u => ⟨_, _, hPw u, fun _ => if_pos rfl, rfl⟩, fun sz => ?_⟩
  refine h_ofW (own := RLaw) (by decide) rfl (fun p e s m below meth c hsz hx hb hr0 hml hown ht hlk hP hK hD hmb hex hZ hmx => ?_)
  subst hsz
  generalize hAe : va_A ((o, .inl (cJ, 1, .inr (.inl f))) :: W) s.heap.size = A at hD hZ ⊢
  have hA : ∀ q : Nat, s.heap.size ≤ q → A q := fun q h => by rw [← hAe]; exact Or.inr h
  have hS : va_S A s.heap s.heap [] := va_S.rf
  have hl := lv_entry ([.ref x0, .int n, .ref o]) (n := 4) (Nat.le_of_ble_eq_true rfl)
  rw [lg_entry_eq]
  generalize (lg_sl ([.ref x0, .int n, .ref o]) ++ List.replicate (4 - (lg_sl ([.ref x0, .int n, .ref o])).length) Slot.unset).toArray = ls at hl ⊢
  have hl : lv_has ls 4 [(0, .ref x0), (1, .int n), (2, .ref o)] := hl
  refine lv_aload_n hx hb dLaw_count_0 rfl (lv_at hl 2 rfl) ?_
  refine lv_iconst (v := 0) hx hb dLaw_count_1 (by decide) ?_
  refine lv_aload_n hx hb dLaw_count_2 rfl (lv_at hl 0 rfl) ?_
  refine lv_iload_n hx hb dLaw_count_3 rfl (lv_at hl 1 rfl) ?_
  refine qa_i (wr := [(o, .inl (cJ, 1, .inr (.inl f)))]) (wc := W) hP hD hS hA (va_runV (As := [.int n]) (rest := [.int 0, .ref o]) ⟨hx, hb, hml, hown, ht⟩ (hM s.heap.size) (cwV 1 ht (g_V km_Law_50 ki_VF_count kv_VF_count kI_VF kc_VF_count) rfl rfl rfl (by decide +kernel) ⟨Nat.le_refl (fr + 1), (by show 8 + (2 + 11) + lo ≤ lo + 30; omega)⟩) (cPre_V (ci := 5) (q0 := 0) (hK.sub [0, 1] rfl) hmb (wP_right (w1 := [(o, .inl (cJ, 1, .inr (.inl f)))]) hP) (wD_right (w1 := [(o, .inl (cJ, 1, .inr (.inl f)))]) hD) rfl hr) rfl rfl hl.1 rfl (lv_room (Nat.le_of_ble_eq_true rfl)) dLaw_count_4 ⟨Nat.le_refl _, Nat.le_refl _⟩) (fun r u H locs hw hP hD hS => ?_)
  subst hw
  refine lv_i2l hx hb dLaw_count_7 rfl ?_
  refine va_last hx hb hK hP hD hS 0 2 rfl rfl (by unfold vp_in; decide) dLaw_count_8 (fun H locs hP hD hS => ?_)
  refine lv_goto (tgt := 15) hx hb dLaw_count_9 (by decide) ?_
  refine lv_iconst (v := 0) hx hb dLaw_count_15 (by decide) ?_
  exact e_i u hx hb hr0 hlk (hK.sub [0, 1] rfl) hP hD hS rfl rfl dLaw_count_16
set_option maxRecDepth 100000 in
theorem h_count_1 {l : Launch} {D : va_G} {cF cI cJ cD : ClassId} {W W1 : va_W} {x0 : Nat} {fs : List Value} (n : Int32) (hr : W[0]? = some (x0, .inr (5, fs))) (hC : XI l D cF cI yVF_count (.code yVF_count cVF_count 2 (some .int)) [.ref x0, .int n] W "java/lang/IllegalArgumentException" W1) (o : Nat) (f : Nat → Int64) (v : Int32) : HJ l D cF cI cJ cD yLaw_count (.codeWith yLaw_count cLaw_count 4 (some .int) [(0, 9, 12, 13)]) [.ref x0, .int n, .ref o] W o f 1 v (fun z => z = W1) := by
  obtain ⟨fr, lo, hfr, hlo, hM⟩ := hC
  refine ⟨Unit, fun _ => (o, .inl (cJ, 1, .inr (.inl f))) :: W1, fr + 1, 1, 6, lo + 30, by omega, by omega, by omega, by omega, fun u => ⟨_, _, rfl, fun h => absurd h (by decide), rfl⟩, fun sz => ?_⟩
  refine h_ofW (own := RLaw) (by decide) rfl (fun p e s m below meth c hsz hx hb hr0 hml hown ht hlk hP hK hD hmb hex hZ hmx => ?_)
  subst hsz
  generalize hAe : va_A ((o, .inl (cJ, 1, .inr (.inl f))) :: W) s.heap.size = A at hD hZ ⊢
  have hA : ∀ q : Nat, s.heap.size ≤ q → A q := fun q h => by rw [← hAe]; exact Or.inr h
  have hS : va_S A s.heap s.heap [] := va_S.rf
  have hl := lv_entry ([.ref x0, .int n, .ref o]) (n := 4) (Nat.le_of_ble_eq_true rfl)
  rw [lg_entry_eq]
  generalize (lg_sl ([.ref x0, .int n, .ref o]) ++ List.replicate (4 - (lg_sl ([.ref x0, .int n, .ref o])).length) Slot.unset).toArray = ls at hl ⊢
  have hl : lv_has ls 4 [(0, .ref x0), (1, .int n), (2, .ref o)] := hl
  refine lv_aload_n hx hb dLaw_count_0 rfl (lv_at hl 2 rfl) ?_
  refine lv_iconst (v := 0) hx hb dLaw_count_1 (by decide) ?_
  refine lv_aload_n hx hb dLaw_count_2 rfl (lv_at hl 0 rfl) ?_
  refine lv_iload_n hx hb dLaw_count_3 rfl (lv_at hl 1 rfl) ?_
  have hF := freeA (wr := [(o, .inl (cJ, 1, .inr (.inl f)))]) (wc := W) hD hS hA
  refine qx_i (wr := [(o, .inl (cJ, 1, .inr (.inl f)))]) (wc := W) hP hD hS hA (vx_runV (As := [.int n]) (rest := [.int 0, .ref o]) ⟨hx, hb, hml, hown, ht⟩ (hM s.heap.size) (cwV 1 ht (g_V km_Law_50 ki_VF_count kv_VF_count kI_VF kc_VF_count) rfl rfl rfl (by decide +kernel) ⟨Nat.le_refl (fr + 1), (by show 8 + (2 + 11) + lo ≤ lo + 30; omega)⟩) (xPre_V (ci := 5) (q0 := 0) (hK.sub [0, 1] rfl) hmb hmx hZ hS hF (wP_right (w1 := [(o, .inl (cJ, 1, .inr (.inl f)))]) hP) (wD_right (w1 := [(o, .inl (cJ, 1, .inr (.inl f)))]) hD) rfl hr) rfl rfl hl.1 rfl (lv_room (Nat.le_of_ble_eq_true rfl)) dLaw_count_4 ⟨Nat.le_refl _, Nat.le_refl _⟩) (fun ce q9 H locs hP hD hS hc9 hv9 hcl9 => ?_)
  refine vx_catch (own := RLaw) (name := "java/lang/IllegalArgumentException") (E := "java/lang/IllegalArgumentException") hown [] ⟨0, 9, 12, 13⟩ [] hex (fun z hz => nomatch hz) rfl (by decide) (ht _ kl_Law_13) (va_Nw.use rfl (hmx.1 _ (List.mem_of_getElem? (i := 3) rfl))) hc9 hv9 hcl9 ?_
  refine lv_astore_n (lv' := [(3, .ref q9), (0, .ref x0), (1, .int n), (2, .ref o)]) hx hb dLaw_count_12 rfl hl (by decide) rfl (fun ls hl => ?_)
  refine lv_iconst (v := 1) hx hb dLaw_count_13 (by decide) ?_
  exact e_i () hx hb hr0 hlk (hK.sub [0, 1] rfl) hP hD hS rfl rfl dLaw_count_14
