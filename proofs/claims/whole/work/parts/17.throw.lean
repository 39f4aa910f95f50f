/-! WHERE A METHOD THROWS -/
def DCS : List Cond := [.declares ⟨"java/lang/RuntimeException", "<init>", "(Ljava/lang/String;)V"⟩, .declares ⟨"java/lang/Exception", "<init>", "(Ljava/lang/String;)V"⟩, .declares ⟨"java/lang/Throwable", "<init>", "(Ljava/lang/String;)V"⟩, .castable "java/lang/IllegalArgumentException" "java/lang/IllegalArgumentException", .castable "java/lang/IllegalStateException" "java/lang/IllegalStateException", .castable "java/lang/IndexOutOfBoundsException" "java/lang/IndexOutOfBoundsException", .castable "java/util/NoSuchElementException" "java/util/NoSuchElementException"]
def NCS : List (String × String) := [("java/lang/IllegalStateException", "java/lang/IllegalArgumentException"), ("java/lang/IndexOutOfBoundsException", "java/lang/IllegalStateException"), ("java/lang/IllegalStateException", "java/util/NoSuchElementException"), ("java/lang/IndexOutOfBoundsException", "java/lang/IllegalArgumentException")]
def AMX (U : State) : Prop := (∀ w ∈ DCS, va_Nw w U) ∧ ∀ q ∈ NCS, va_Nc q.1 q.2 U
theorem dcs_form : ∀ w ∈ DCS, (∃ x, w = Cond.declares x) ∨ ∃ a b, w = Cond.castable a b := by
  intro w hw
  simp only [DCS, List.mem_cons, List.not_mem_nil, or_false] at hw
  rcases hw with rfl | rfl | rfl | rfl | rfl | rfl | rfl
  · exact Or.inl ⟨_, rfl⟩
  · exact Or.inl ⟨_, rfl⟩
  · exact Or.inl ⟨_, rfl⟩
  · exact Or.inr ⟨_, _, rfl⟩
  · exact Or.inr ⟨_, _, rfl⟩
  · exact Or.inr ⟨_, _, rfl⟩
  · exact Or.inr ⟨_, _, rfl⟩
theorem dcs_tab {w : Cond} (hw : w ∈ DCS) : w.onTables = true := by
  rcases dcs_form w hw with ⟨x, rfl⟩ | ⟨a, b, rfl⟩ <;> rfl
theorem AMX.warm {s U : State} (hW : s.WarmedH U.vm) (h : AMX s) : AMX U := ⟨fun w hw => by
    rcases dcs_form w hw with ⟨x, rfl⟩ | ⟨a, b, rfl⟩
    · exact va_Nw.warmD hW (h.1 _ hw)
    · exact va_Nw.warmC hW (h.1 _ hw), fun q hq => va_Nc.moved hW.alike (h.2 q hq)⟩
def cPreX (D : va_G) (cF cI : ClassId) (ws : va_W) (sz : Nat) (U : State) : Prop := cPre D cF cI ws sz U ∧ vx_Zq Bundle.tN "UNASSIGNED_STACK" Bundle.steD (va_A ws sz) U U.heap ∧ vx_Zq Bundle.tN "SUPPRESSED_SENTINEL" Bundle.listD (va_A ws sz) U U.heap ∧ AMX U
def xB (D : va_G) (cF cI : ClassId) (A : Nat → Prop) (cls : String) (w : va_W) : String → Unit → State → Prop := fun E _ t => E = cls ∧ va_P D vwCl w t.heap ∧ va_K D vwCl (TYS cF cI) t ∧ va_D A w
theorem cPreX_blind {D : va_G} {cF cI : ClassId} {ws : va_W} {sz : Nat} {as : List Value} : FrameBlind (va_Pc as (cPreX D cF cI ws sz)) := fun a U g mk q => by
  obtain ⟨q0, q1, q2, q3, q4⟩ := q
  exact ⟨q0, (cPre_blind (as := as) a U g mk ⟨q0, q1⟩).2, vx_Zq.moved (u := U) (U := U.calling g mk a) (Vm.Alike.refl U.vm) q2, vx_Zq.moved (u := U) (U := U.calling g mk a) (Vm.Alike.refl U.vm) q3, AMX.warm (s := U) (U := U.calling g mk a) (State.WarmedH.refl U) q4⟩
section XBase
variable {p : Program} {l : Launch} {e : Env} {R : Room} {s : State} {m : MethodId} {args : Array Value} {below : List Frame} {meth : Method} {c : Code} {H : Heap} {locs : List Loc} {cells slots : Nat} {Q : State → Prop}
theorem x_ofW {y : MethodName} {own : String} {cc : ByteArray} {maxL : Nat} {ret : Option FieldType} {rm : Room} {as : List Value} {D : va_G} {cF cI : ClassId} {ws : va_W} {sz : Nat} {Qc : Array Value → State → Outcome → State → Prop} {XC : String → State → State → Prop} {mc ms : Nat} {free : Addr → Prop}
    (hy : plainName y.cls = true) (hyc : y.cls = own)
    (body : ∀ (p : Program) (e : Env) (s : State) (m : MethodId) (below : List Frame) (meth : Method) (c : Code), s.heap.size = sz → p.tables.exec = Jvm.exec → c.code = cc → meth.sig.returnType = ret → c.maxLocals = maxL → s.vm.findClass own = some m.cls →
      (∀ w ∈ TB, w.before as.toArray s = true) → meth.locks = false → meth.name = y.name → va_P D vwCl ws s.heap → va_K D vwCl (TYS cF cI) s → va_D (va_A ws s.heap.size) ws → AMB s →
      (∀ x ∈ c.exceptionTable.toList, False) → vx_Zq Bundle.tN "UNASSIGNED_STACK" Bundle.steD (va_A ws s.heap.size) s s.heap → vx_Zq Bundle.tN "SUPPRESSED_SENTINEL" Bundle.listD (va_A ws s.heap.size) s s.heap → AMX s →
      W p l e rm s m as.toArray below meth c s.heap [] 0 0 (vx_MQ below Qc XC as.toArray s mc ms free) (entryFrame m as.toArray maxL)) :
    vx_Met l y (.code y cc maxL ret :: TB) rm (va_Pc as (cPreX D cF cI ws sz)) Qc XC mc ms free := by
  refine vx_ofW (cc := cc) (maxL := maxL) (ret := ret) hy rfl ?_
  intro p e s m args below meth c s₁ B hml hex hv
  obtain ⟨rfl, ⟨hsz, hP, hK, hD, hA⟩, hU, hN, hmx⟩ := hv
  have hts := atoms_spec (ws := Cond.code y cc maxL ret :: TB) B.pre
  subst hsz
  exact body p e s m below meth c rfl B.exec B.bytes B.returns hml (hyc ▸ findClass_of_methodNamed B.named) (fun w h => hts w (List.mem_cons_of_mem _ h)) B.notSynchronized (name_of_methodNamed B.named B.method).1 hP hK hD.self hA hex hU hN hmx
variable {D : va_G} {cF cI : ClassId} {A : Nat → Prop} {cc : ByteArray} {pc : Nat} {ls : Array Slot} {rest : List Value} {Qc : Array Value → State → Outcome → State → Prop} {free : Addr → Prop} {w1 : va_W}
/-- the end: new, dup, ldc, <init>, athrow -/
theorem e_x {cls text : String} {ik is ic : Nat} (hl0 : l.stackTraces = false) (hx : p.tables.exec = Jvm.exec) (hb : c.code = cc) (hml : ls.size = c.maxLocals) (hown : s.vm.findClass RVF = some m.cls) (ht : ∀ w ∈ TB, w.before args s = true) (hlk : meth.locks = false) (hmb : AMB s) (hmx : AMX s)
    (hex : ∀ x ∈ c.exceptionTable.toList, False) (hU : vx_Zq Bundle.tN "UNASSIGNED_STACK" Bundle.steD A s s.heap) (hN : vx_Zq Bundle.tN "SUPPRESSED_SENTINEL" Bundle.listD A s s.heap) (hK : va_K D vwCl (TYS cF cI) s) (hP : va_P D vwCl w1 H) (hD : va_D A w1) (hS : va_S A s.heap H locs)
    (hcls : Bundle.fit cls = true) (hk : Cond.classLink RVF ik cls ∈ TB) (hini : Cond.initialized cls ∈ TB) (hstr : (is, text) ∈ STRS) (hat : ∀ w ∈ vx_atS RVF ic cls ["java/lang/RuntimeException", "java/lang/Exception"], w ∈ TB ∨ w ∈ DCS)
    (d0 : decode cc pc = .ok (.new ik, 3)) (d3 : decode cc (pc + 3) = .ok (.dup, 1)) (d4 : decode cc (pc + 4) = .ok (.ldc is, 2)) (d6 : decode cc (pc + 6) = .ok (.invokespecial ic, 3)) (d9 : decode cc (pc + 9) = .ok (.athrow, 1))
    (hRf : 5 < R.frames) (hRl : (rest.map fun v => v.category).sum + 82 ≤ R.locals) (hRc : cells + 1 ≤ R.cells) (hRs : slots + 6 ≤ R.slots) :
    W p l e R s m args below meth c H locs cells slots (vx_MQ below Qc (vx_X (fun _ : Unit => True) (xB D cF cI A cls w1) A) args s (cells + 1) (slots + 6) A) (F0 m pc ls rest) := by
  obtain ⟨sa, hs⟩ := hmb.2 _ hstr
  have hfit : ∀ n ∈ ["java/lang/RuntimeException", "java/lang/Exception"], Bundle.fit n = true := by decide +kernel
  refine vx_throwS (names := ["java/lang/RuntimeException", "java/lang/Exception"]) (A := A) hx hb hl0 hown hcls hfit (ht _ hk) (ht _ hini) hs (fun w hw => (hat w hw).elim (fun q => ht _ q) (fun q => va_Nw.use (dcs_tab q) (hmx.1 _ q))) ?_ hU hN hS hml d0 d3 d4 d6 d9 (fun x h => (hex x h).elim) hRf hRl hRc hRs hlk ?_ hS.2.2 (Nat.le_refl _) (Nat.le_refl _)
  · intro w hw
    have hm : w ∈ TB ∨ w ∈ DCS := by
      rcases List.mem_cons.mp hw with rfl | hw
      · exact Or.inl hk
      · rcases List.mem_cons.mp hw with rfl | hw
        · exact Or.inl hini
        · exact hat w hw
    unfold vx_ot
    rcases hm with hm | hm
    · rw [(List.mem_filter.mp hm).2, Bool.or_true]
    · rw [dcs_tab hm, Bool.true_or]
  · intro t hvm hz hq
    refine ⟨(), trivial, ⟨rfl, fun k q hk => va_at.kept (hP k q hk) (hq _ (hP k q hk).lt), va_K.moved hvm hK, hD⟩, Nat.le_trans hS.1 hz, fun q h1 h2 => (hq q (Nat.lt_of_lt_of_le h1 hS.1)).trans (hS.2.1 q h1 h2)⟩
end XBase
set_option maxRecDepth 100000 in
theorem xa_42 : ∀ w ∈ vx_atS RVF 42 "java/lang/IllegalArgumentException" ["java/lang/RuntimeException", "java/lang/Exception"], w ∈ TB ∨ w ∈ DCS := by decide +kernel
set_option maxRecDepth 100000 in
theorem xa_53 : ∀ w ∈ vx_atS RVF 53 "java/lang/IllegalStateException" ["java/lang/RuntimeException", "java/lang/Exception"], w ∈ TB ∨ w ∈ DCS := by decide +kernel
set_option maxRecDepth 100000 in
theorem xa_72 : ∀ w ∈ vx_atS RVF 72 "java/lang/IndexOutOfBoundsException" ["java/lang/RuntimeException", "java/lang/Exception"], w ∈ TB ∨ w ∈ DCS := by decide +kernel
