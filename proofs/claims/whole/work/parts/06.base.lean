/-! WHAT EVERY METHOD LEANS ON BESIDE THE GOOD WORDS, AND THE FORM OF A CONTRACT -/
def NST : List Cond := [.methodLinkNest RVF 15 yRow_init RVF, .methodLinkNest RVF 22 yCod_init RVF, .methodLinkNest RCod 11 yVoi_init RVF, .methodLinkNest RCod 20 yPac_init RVF, .methodLinkNest RVF 29 yDec_init RVF, .methodLinkNest RDec 11 yVoi_init RVF, .methodLinkNest RDec 20 yPac_init RVF, .methodLinkNest RCod 74 yVF_quotient RVF, .methodLinkNest RCod 79 yVF_rounded RVF, .methodLinkNest RCod 87 yVF_unsigned RVF, .methodLinkNest RCod 91 yVF_greater RVF, .methodLinkNest RVoi 31 yVF_clipped RVF]
def STRS : List (Nat × String) := [(40, "no sample"), (51, "the input is full"), (58, "no whole frame"), (70, "the stream is full"), (95, "no byte more"), (101, "the packet is cut"), (117, "no such sample"), (142, "no such code"), (151, "no such byte"), (156, "no byte"), (158, "not so many bytes"), (167, "no samples on one side"), (190, "nothing to count")]
def AMB (U : State) : Prop := (∀ w ∈ NST, va_Nw w U) ∧ ∀ q ∈ STRS, ∃ sa : Nat, vk_R RVF q.1 q.2 sa U
theorem nst_form : ∀ w ∈ NST, ∃ a i x h, w = Cond.methodLinkNest a i x h := by
  intro w hw
  simp only [NST, List.mem_cons, List.not_mem_nil, or_false] at hw
  rcases hw with rfl | rfl | rfl | rfl | rfl | rfl | rfl | rfl | rfl | rfl | rfl | rfl <;> exact ⟨_, _, _, _, rfl⟩
theorem AMB.warm {s U : State} (hW : s.WarmedH U.vm) (h : AMB s) : AMB U := ⟨fun w hw => by
    obtain ⟨a, i, x, hh, rfl⟩ := nst_form w hw
    exact va_Nw.warmM hW (h.1 _ hw), fun q hq => by
    obtain ⟨sa, hs⟩ := h.2 q hq
    exact ⟨sa, hs.warm hW⟩⟩
theorem AMB.call {U : State} {g : JFrame} {mk : MethodId} {a : Array Value} (h : AMB U) : AMB (U.calling g mk a) := AMB.warm (s := U) (U := U.calling g mk a) (State.WarmedH.refl U) h
abbrev TYS (cF cI : ClassId) : List (ClassId × FieldType) := [(cF, .float), (cI, .int)]
/-- a contract's start: the cells ws lie there, apart; sz cells in all -/
def cPre (D : va_G) (cF cI : ClassId) (ws : va_W) (sz : Nat) (U : State) : Prop := U.heap.size = sz ∧ va_P D vwCl ws U.heap ∧ va_K D vwCl (TYS cF cI) U ∧ va_D (fun _ => True) ws ∧ AMB U
/-- a contract's end: the cells are those of w u -/
def cB {S : Type} (D : va_G) (cF cI : ClassId) (A : Nat → Prop) (w : S → va_W) : S → State → Prop := fun u t => va_P D vwCl (w u) t.heap ∧ va_K D vwCl (TYS cF cI) t ∧ va_D A (w u)
theorem cPre_blind {D : va_G} {cF cI : ClassId} {ws : va_W} {sz : Nat} {as : List Value} : FrameBlind (va_Pc as (cPre D cF cI ws sz)) := fun a U g mk q => by
  obtain ⟨q0, q1, qP, qK, qD, qA⟩ := q
  exact ⟨q0, q1, qP, va_K.moved (u := U) (U := U.calling g mk a) (Vm.Alike.refl U.vm) qK, qD, qA.call⟩
theorem cPre_S {D : va_G} {cF cI : ClassId} {wc : va_W} {as : List Value} {s : State} {H : Heap} {A0 : Nat → Prop} (hK : va_K D vwCl (TYS cF cI) s) (hm : AMB s) (hP : va_P D vwCl wc H) (hD : va_D A0 wc) : PreS s H (va_Pc as (cPre D cF cI wc H.size)) as :=
  ⟨cPre_blind, fun U hU hW => ⟨rfl, by rw [hU], by rw [hU]; exact hP, va_K.moved hW.alike hK, hD.weaken (fun _ _ _ _ => trivial), hm.warm hW⟩⟩
theorem cPre_V {D : va_G} {cF cI : ClassId} {wc : va_W} {as : List Value} {b q0 ci : Nat} {q : vw_C} {fs : List Value} {s : State} {H : Heap} {A0 : Nat → Prop} (hK : va_K D vwCl (TYS cF cI) s) (hm : AMB s) (hP : va_P D vwCl wc H) (hD : va_D A0 wc) (hc : vwCl[ci]? = some q) (he : wc[q0]? = some (b, .inr (ci, fs))) :
    PreV s H q.1 b (va_Pc (.ref b :: as) (cPre D cF cI wc H.size)) as :=
  ⟨cPre_blind, va_recv hK hP hc he, (cPre_S (as := .ref b :: as) hK hm hP hD).2⟩
section Base
variable {p : Program} {l : Launch} {e : Env} {R : Room} {s : State} {m : MethodId} {args : Array Value} {below : List Frame} {meth : Method} {c : Code} {H : Heap} {locs : List Loc} {cells slots : Nat} {Q : State → Prop}
/-- a contract out of the walk of its body -/
theorem c_ofW {y : MethodName} {own : String} {cc : ByteArray} {maxL : Nat} {ret : Option FieldType} {rm : Room} {as : List Value} {D : va_G} {cF cI : ClassId} {ws : va_W} {sz : Nat} {Qc : Array Value → State → Outcome → State → Prop} {mc ms : Nat} {free : Addr → Prop}
    (hy : plainName y.cls = true) (hyc : y.cls = own)
    (body : ∀ (p : Program) (e : Env) (s : State) (m : MethodId) (below : List Frame) (meth : Method) (c : Code), s.heap.size = sz → p.tables.exec = Jvm.exec → c.code = cc → meth.sig.returnType = ret → c.maxLocals = maxL → s.vm.findClass own = some m.cls →
      (∀ w ∈ TB, w.before as.toArray s = true) → meth.locks = false → meth.name = y.name → va_P D vwCl ws s.heap → va_K D vwCl (TYS cF cI) s → va_D (va_A ws s.heap.size) ws → AMB s →
      W p l e rm s m as.toArray below meth c s.heap [] 0 0 (MQ below Qc as.toArray s mc ms free) (entryFrame m as.toArray maxL)) :
    Met l y (.code y cc maxL ret :: TB) rm (va_Pc as (cPre D cF cI ws sz)) Qc mc ms free := by
  refine Met.ofW (cc := cc) (maxL := maxL) (ret := ret) hy rfl ?_
  intro p e s m args below meth c s₁ B hml hv
  obtain ⟨rfl, hsz, hP, hK, hD, hA⟩ := hv
  have hts := atoms_spec (ws := Cond.code y cc maxL ret :: TB) B.pre
  exact body p e s m below meth c hsz B.exec B.bytes B.returns hml (hyc ▸ findClass_of_methodNamed B.named) (fun w h => hts w (List.mem_cons_of_mem _ h)) B.notSynchronized (name_of_methodNamed B.named B.method).1 hP hK hD.self hA
/-- the words of a call -/
theorem g_V {own C : String} {idx : Nat} {y : MethodName} {bs : ByteArray} {mL : Nat} {rt : Option FieldType} (h1 : Cond.methodLink own idx y ∈ TB) (h2 : Cond.instanceMethod y ∈ TB) (h3 : Cond.selects C y y ∈ TB) (h4 : Cond.initialized C ∈ TB) (h5 : Cond.code y bs mL rt ∈ TB) :
    GoodIn TB (wsV own idx C y (Cond.code y bs mL rt :: TB)) := by
  intro w hw
  have hm : w ∈ TB := by
    simp only [wsV, List.cons_append, List.nil_append, List.mem_cons] at hw
    rcases hw with rfl | rfl | rfl | rfl | rfl | hw
    · exact h1
    · exact h2
    · exact h3
    · exact h4
    · exact h5
    · exact hw
  exact ⟨hm, tb_good hm⟩
theorem g_S {own : String} {idx : Nat} {y : MethodName} {bs : ByteArray} {mL : Nat} {rt : Option FieldType} (h1 : Cond.methodLink own idx y ∈ TB) (h2 : Cond.static y ∈ TB) (h4 : Cond.initialized y.cls ∈ TB) (h5 : Cond.code y bs mL rt ∈ TB) :
    GoodIn TB (va_wsS own idx y (Cond.code y bs mL rt :: TB)) := by
  intro w hw
  have hm : w ∈ TB := by
    simp only [va_wsS, List.cons_append, List.nil_append, List.mem_cons] at hw
    rcases hw with rfl | rfl | rfl | rfl | hw
    · exact h1
    · exact h2
    · exact h4
    · exact h5
    · exact hw
  exact ⟨hm, tb_good hm⟩
theorem g_C {y : MethodName} {bs : ByteArray} {mL : Nat} {rt : Option FieldType} (h5 : Cond.code y bs mL rt ∈ TB) : GoodIn TB (Cond.code y bs mL rt :: TB) := by
  intro w hw
  have hm : w ∈ TB := by
    rcases List.mem_cons.mp hw with rfl | hw
    · exact h5
    · exact hw
  exact ⟨hm, tb_good hm⟩
variable {D : va_G} {cF cI : ClassId} {A : Nat → Prop} {cc : ByteArray} {pc : Nat} {ls : Array Slot} {tys : List (ClassId × FieldType)}
/-- the ends -/
theorem e_i {S : Type} {post : Int32 → S → Prop} {w : S → va_W} {w1 : va_W} {v : Int32} (u : S) (hx : p.tables.exec = Jvm.exec) (hb : c.code = cc) (hr : meth.sig.returnType = some .int) (hlk : meth.locks = false) (hK : va_K D vwCl (TYS cF cI) s) (hP : va_P D vwCl w1 H) (hD : va_D A w1) (hS : va_S A s.heap H locs) (hw : w1 = w u) (hp : post v u) (hdg : decode cc pc = .ok (.ireturn, 1)) :
    W p l e R s m args below meth c H locs cells slots (MQ below (va_Qi post (cB D cF cI A w) A) args s cells slots A) (F0 m pc ls [.int v]) := by
  subst hw
  exact W.iret (v := v) hx hb hr (fun t ht hW => ⟨⟨v, u, rfl, hp, by rw [ht]; exact hP, va_K.moved hW.alike hK, hD⟩, hS.F ht⟩) hS.2.2 hdg hlk
theorem e_z {S : Type} {post : Int32 → S → Prop} {w : S → va_W} {w1 : va_W} {v : Int32} (u : S) (hx : p.tables.exec = Jvm.exec) (hb : c.code = cc) (hr : meth.sig.returnType = some .boolean) (hlk : meth.locks = false) (hK : va_K D vwCl (TYS cF cI) s) (hP : va_P D vwCl w1 H) (hD : va_D A w1) (hS : va_S A s.heap H locs) (hn : narrow .boolean (.int v) = .int v) (hw : w1 = w u) (hp : post v u) (hdg : decode cc pc = .ok (.ireturn, 1)) :
    W p l e R s m args below meth c H locs cells slots (MQ below (va_Qi post (cB D cF cI A w) A) args s cells slots A) (F0 m pc ls [.int v]) := by
  subst hw
  exact W.zret (v := v) (ty := .boolean) hx hb hr hn (fun t ht hW => ⟨⟨v, u, rfl, hp, by rw [ht]; exact hP, va_K.moved hW.alike hK, hD⟩, hS.F ht⟩) hS.2.2 hdg hlk
theorem e_f {S : Type} {post : UInt32 → S → Prop} {w : S → va_W} {w1 : va_W} {v : UInt32} (u : S) (hx : p.tables.exec = Jvm.exec) (hb : c.code = cc) (hr : meth.sig.returnType = some .float) (hlk : meth.locks = false) (hK : va_K D vwCl (TYS cF cI) s) (hP : va_P D vwCl w1 H) (hD : va_D A w1) (hS : va_S A s.heap H locs) (hw : w1 = w u) (hp : post v u) (hdg : decode cc pc = .ok (.freturn, 1)) :
    W p l e R s m args below meth c H locs cells slots (MQ below (va_Qf post (cB D cF cI A w) A) args s cells slots A) (F0 m pc ls [.float v]) := by
  subst hw
  exact W.fret (v := v) hx hb hr (fun t ht hW => ⟨⟨v, u, rfl, hp, by rw [ht]; exact hP, va_K.moved hW.alike hK, hD⟩, hS.F ht⟩) hS.2.2 hdg hlk
theorem e_d {S : Type} {post : UInt64 → S → Prop} {w : S → va_W} {w1 : va_W} {v : UInt64} (u : S) (hx : p.tables.exec = Jvm.exec) (hb : c.code = cc) (hr : meth.sig.returnType = some .double) (hlk : meth.locks = false) (hK : va_K D vwCl (TYS cF cI) s) (hP : va_P D vwCl w1 H) (hD : va_D A w1) (hS : va_S A s.heap H locs) (hw : w1 = w u) (hp : post v u) (hdg : decode cc pc = .ok (.dreturn, 1)) :
    W p l e R s m args below meth c H locs cells slots (MQ below (va_Qd post (cB D cF cI A w) A) args s cells slots A) (F0 m pc ls [.double v]) := by
  subst hw
  exact W.dret (v := v) hx hb hr (fun t ht hW => ⟨⟨v, u, rfl, hp, by rw [ht]; exact hP, va_K.moved hW.alike hK, hD⟩, hS.F ht⟩) hS.2.2 hdg hlk
theorem e_v {S : Type} {post : S → Prop} {w : S → va_W} {w1 : va_W} (u : S) (hx : p.tables.exec = Jvm.exec) (hb : c.code = cc) (hr : meth.sig.returnType = none) (hlk : meth.locks = false) (hK : va_K D vwCl (TYS cF cI) s) (hP : va_P D vwCl w1 H) (hD : va_D A w1) (hS : va_S A s.heap H locs) (hw : w1 = w u) (hp : post u) (hdg : decode cc pc = .ok (.return_, 1)) :
    W p l e R s m args below meth c H locs cells slots (MQ below (va_Qv post (cB D cF cI A w) A) args s cells slots A) (F0 m pc ls []) := by
  subst hw
  exact W.vret hx hb hr (fun t ht hW => ⟨⟨u, rfl, hp, by rw [ht]; exact hP, va_K.moved hW.alike hK, hD⟩, hS.F ht⟩) hS.2.2 hdg hlk
variable {H0 : Heap} {A0 : Nat → Prop} {st0 rest : List Value} {mc ms : Nat} {a : Array Value} {ws wc wr : va_W}
/-- behind a call: the callee's cells as they came back, behind the rest -/
theorem q_i {S : Type} {post : Int32 → S → Prop} {w : S → va_W} (isC isR : List Nat) (hK : va_K D vwCl (TYS cF cI) s) (hP : va_P D vwCl ws H) (hD : va_D A0 ws) (hS : va_S A0 H0 H locs) (hA : ∀ q, H0.size ≤ q → A0 q)
    (hC : isC.map (fun i => ws[i]?) = wc.map some) (hR : isR.map (fun i => ws[i]?) = wr.map some) (hn : va_nd isR = true) (hdis : ∀ i ∈ isR, i ∉ isC)
    (hr : va_Run p l e R s m args below meth c H locs cells slots mc ms (F0 m pc ls st0) rest (va_Qi post (cB D cF cI (va_A wc H.size) w) (va_A wc H.size) a) (va_A wc H.size))
    (kk : ∀ (r : Int32) (u : S) (H1 : Heap) (locs1 : List Loc), post r u → va_P D vwCl (wr ++ w u) H1 → va_D A0 (wr ++ w u) → va_S A0 H0 H1 locs1 → W p l e R s m args below meth c H1 locs1 (cells + mc) (slots + ms) Q (F0 m (pc + 3) ls (.int r :: rest))) : W p l e R s m args below meth c H locs cells slots Q (F0 m pc ls st0) := by
  have hF := va_free (wc := wc) hD hS hA isC hC
  refine va_calli hr hS (fun q _ h => hF q h) hF (fun r u t H1 locs1 ht hvm hw hB hz hk hS1 => ?_)
  obtain ⟨hP1, hK1, hD1⟩ := hB
  rw [ht] at hP1
  obtain ⟨hP2, hD2⟩ := va_join (wr := wr) (w1 := w u) hP hD isC isR hC hR hn hdis hk hF hP1 hD1
  exact kk r u H1 locs1 hw hP2 hD2 hS1
theorem q_f {S : Type} {post : UInt32 → S → Prop} {w : S → va_W} (isC isR : List Nat) (hK : va_K D vwCl (TYS cF cI) s) (hP : va_P D vwCl ws H) (hD : va_D A0 ws) (hS : va_S A0 H0 H locs) (hA : ∀ q, H0.size ≤ q → A0 q)
    (hC : isC.map (fun i => ws[i]?) = wc.map some) (hR : isR.map (fun i => ws[i]?) = wr.map some) (hn : va_nd isR = true) (hdis : ∀ i ∈ isR, i ∉ isC)
    (hr : va_Run p l e R s m args below meth c H locs cells slots mc ms (F0 m pc ls st0) rest (va_Qf post (cB D cF cI (va_A wc H.size) w) (va_A wc H.size) a) (va_A wc H.size))
    (kk : ∀ (r : UInt32) (u : S) (H1 : Heap) (locs1 : List Loc), post r u → va_P D vwCl (wr ++ w u) H1 → va_D A0 (wr ++ w u) → va_S A0 H0 H1 locs1 → W p l e R s m args below meth c H1 locs1 (cells + mc) (slots + ms) Q (F0 m (pc + 3) ls (.float r :: rest))) : W p l e R s m args below meth c H locs cells slots Q (F0 m pc ls st0) := by
  have hF := va_free (wc := wc) hD hS hA isC hC
  refine va_callf hr hS (fun q _ h => hF q h) hF (fun r u t H1 locs1 ht hvm hw hB hz hk hS1 => ?_)
  obtain ⟨hP1, hK1, hD1⟩ := hB
  rw [ht] at hP1
  obtain ⟨hP2, hD2⟩ := va_join (wr := wr) (w1 := w u) hP hD isC isR hC hR hn hdis hk hF hP1 hD1
  exact kk r u H1 locs1 hw hP2 hD2 hS1
theorem q_v {S : Type} {post : S → Prop} {w : S → va_W} (isC isR : List Nat) (hK : va_K D vwCl (TYS cF cI) s) (hP : va_P D vwCl ws H) (hD : va_D A0 ws) (hS : va_S A0 H0 H locs) (hA : ∀ q, H0.size ≤ q → A0 q)
    (hC : isC.map (fun i => ws[i]?) = wc.map some) (hR : isR.map (fun i => ws[i]?) = wr.map some) (hn : va_nd isR = true) (hdis : ∀ i ∈ isR, i ∉ isC)
    (hr : va_Run p l e R s m args below meth c H locs cells slots mc ms (F0 m pc ls st0) rest (va_Qv post (cB D cF cI (va_A wc H.size) w) (va_A wc H.size) a) (va_A wc H.size))
    (kk : ∀ (u : S) (H1 : Heap) (locs1 : List Loc), post u → va_P D vwCl (wr ++ w u) H1 → va_D A0 (wr ++ w u) → va_S A0 H0 H1 locs1 → W p l e R s m args below meth c H1 locs1 (cells + mc) (slots + ms) Q (F0 m (pc + 3) ls rest)) : W p l e R s m args below meth c H locs cells slots Q (F0 m pc ls st0) := by
  have hF := va_free (wc := wc) hD hS hA isC hC
  refine va_callv hr hS (fun q _ h => hF q h) hF (fun u t H1 locs1 ht hvm hw hB hz hk hS1 => ?_)
  obtain ⟨hP1, hK1, hD1⟩ := hB
  rw [ht] at hP1
  obtain ⟨hP2, hD2⟩ := va_join (wr := wr) (w1 := w u) hP hD isC isR hC hR hn hdis hk hF hP1 hD1
  exact kk u H1 locs1 hw hP2 hD2 hS1
end Base
