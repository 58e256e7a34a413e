/-! ===== BEGIN words of one list among another's, by their places ===== -/
theorem goodIn_r {big : List Cond} (ws : List Cond) (ps : List Nat) (hp : ws = ps.filterMap (fun i => big[i]?)) (h : ws.all goodWord = true) : GoodIn big ws := by
  intro w hw
  have h1 := List.all_eq_true.mp h w hw
  rw [hp] at hw
  obtain ⟨i, -, hi⟩ := List.mem_filterMap.mp hw
  have hm : w ∈ big := by first | exact List.mem_of_getElem? hi | exact List.getElem?_mem hi
  exact ⟨hm, good_of_word h1⟩
theorem goodIn_app {big a b : List Cond} (ha : GoodIn big a) (hb : GoodIn big b) : GoodIn big (a ++ b) := fun w h => (List.mem_append.mp h).elim (ha w) (hb w)
theorem goodIn_ca {big a b : List Cond} {c : Cond} (ha : GoodIn big (c :: a)) (hb : GoodIn big b) : GoodIn big (c :: (a ++ b)) := fun w h => (List.mem_cons.mp h).elim (fun e => ha w (List.mem_cons.mpr (Or.inl e))) (fun h => (List.mem_append.mp h).elim (fun h => ha w (List.mem_cons.mpr (Or.inr h))) (hb w))
theorem goodIn_sub {big ws : List Cond} (hm : ∀ w ∈ ws, w ∈ big) (h : ws.all goodWord = true) : GoodIn big ws := fun w hw => ⟨hm w hw, good_of_word (List.all_eq_true.mp h w hw)⟩
/-! ===== END ===== -/

/-! ===== BEGIN exceptions that leave a method, and their catching by the caller (launches without stack traces) ===== -/
section VXA
/-! The laws vx_back, vx_callV, vx_callS, vx_callSW, vx_throw0, vx_throwS follow proofs of the library, with one case more: JvmDerived/Free/Laws.lean (Back.of_free), Shelf42/LK1.lean (callV, callS), Shelf/KitTraced.lean (throwNew0V, throwNewS). -/
/-- where a method has thrown q: the class by its name, the cell, what was written, the world -/
def vx_T (XC : String → State → State → Prop) (st : State) (q : Addr) (t : State) (mc ms : Nat) (free : Addr → Prop) : Prop :=
  ∃ (E : String) (ce : Cell) (L : List Loc), XC E st t ∧ t.heap[q]? = some ce ∧ ce.vm = .none ∧ st.vm.findClass E = some ce.cls ∧ st.WarmedH t.vm ∧ st.sameButNew ({ t with vm := st.vm } : State) L mc ms ∧ ∀ z ∈ L, free z.base
def vx_Q (Qc : Array Value → State → Outcome → State → Prop) (XC : String → State → State → Prop) (mc ms : Nat) (free : Addr → Prop) : Array Value → State → Outcome → State → Prop := fun a st o t =>
  (Qc a st o t ∧ ∃ L, FrameEnd st o t L mc ms ∧ ∀ q ∈ L, free q.base) ∨ ∃ q, o = .threw q ∧ vx_T XC st q t mc ms free
/-- a callee that returns or throws -/
def vx_Met (l : Launch) (y : MethodName) (ws : List Cond) (rm : Room) (Pc : Array Value → State → Prop) (Qc : Array Value → State → Outcome → State → Prop) (XC : String → State → State → Prop) (mc ms : Nat) (free : Addr → Prop) : Prop :=
  MetFree l y (headSpec ws rm) Pc (fun _ _ _ _ _ => True) (vx_Q Qc XC mc ms free)
def vx_Post (XC : String → State → State → Prop) (mc ms : Nat) (free : Addr → Prop) : Pt → Array Value → Addr → Pt → Prop := fun A a q B =>
  ∃ (g : JFrame) (mk : MethodId) (t : State) (L : List Loc) (E : String) (ce : Cell), B.U.heap = t.heap ∧ B.U.vm = t.vm ∧ XC E (A.U.calling g mk a) t ∧ t.heap[q]? = some ce ∧ ce.vm = .none ∧ A.U.vm.findClass E = some ce.cls ∧ B.locs = A.locs ++ L ∧ (∀ z ∈ L, free z.base) ∧ B.cells = A.cells + mc ∧ B.slots = A.slots + ms
def vx_Back (l : Launch) (R : Room) (p : Program) (e : Env) (below : List Frame) (s : State) (sargs : Array Value) (y : MethodName) (len W9 : Nat)
    (Pre : Pt → Array Value → Prop) (Post : Pt → Array Value → Option Value → Pt → Prop) (PostX : Pt → Array Value → Addr → Pt → Prop) : Prop :=
  ∀ (m : MethodId) (meth : Method) (c : Code) (A : Pt) (g : JFrame) (ig : Instr) (mk : MethodId) (a : Array Value),
    Stand p l e R s m sargs below meth c A.U A.locs A.cells A.slots → g.method = m → g.locals.size = c.maxLocals → decode c.code g.pc = .ok (ig, len) →
    2 * g.monitorRoom + (g.stack.map fun v => v.category).sum ≤ W9 → A.U.methodNamed? y = some mk → Pre A a →
    (∃ (v : Option Value) (B : Pt), Stand p l e R s m sargs below meth c B.U B.locs B.cells B.slots ∧ Post A a v B ∧
      Steps p.tables e below (doInvoke e (A.U.setTop g) [] mk a).1 (B.U.setTop { g with pc := g.pc + len, stack := v.toList ++ g.stack })) ∨
    (∃ (q : Addr) (B : Pt), Stand p l e R s m sargs below meth c B.U B.locs B.cells B.slots ∧ PostX A a q B ∧
      Steps p.tables e below (doInvoke e (A.U.setTop g) [] mk a).1 ((B.U.setTop g).pushFrame (.throwing q)))
section Payer
variable {l : Launch} {R : Room} {p : Program} {e : Env} {below : List Frame} {s : State} {sargs : Array Value} {y : MethodName} {len W9 : Nat}
theorem vx_back {ws : List Cond} {rm : Room} {Pc : Array Value → State → Prop} {Qc : Array Value → State → Outcome → State → Prop} {XC : String → State → State → Prop} {mc ms : Nat} {free : Addr → Prop} {bytes : ByteArray} {maxL : Nat} {ret : Option FieldType}
    (hM : vx_Met l y ws rm Pc Qc XC mc ms free) (hblind : FrameBlind Pc) (hrc : rm.cells = mc) (hrs : rm.slots = ms)
    (hframes : rm.frames + 1 ≤ R.frames) (hlocals : W9 + (maxL + 11) + rm.locals ≤ R.locals)
    (hws : ∀ w ∈ ws, ∀ a' U, s.WarmedH U.vm → w.before a' U = true) (hcode : Cond.code y bytes maxL ret ∈ ws) (hinit : ∀ a' U, s.WarmedH U.vm → (Cond.initialized y.cls).before a' U = true) :
    vx_Back l R p e below s sargs y len W9 (PreOf R mc ms Pc) (PostOf Qc mc ms free) (vx_Post XC mc ms free) := by
  intro m meth c A g ig mk a X hg hsize hdg hW hn hp
  have h1 : (headSpec ws rm).pre.before a A.U = true := atoms_intro fun w hw => hws w hw _ _ X.warmed
  have h2 : (Cond.code y bytes maxL ret).before a A.U = true := hws _ hcode _ _ X.warmed
  have h3 : (Cond.initialized y.cls).before a A.U = true := hinit _ _ X.warmed
  have h4 : A.cells + (headSpec ws rm).room.cells ≤ R.cells := by rw [show (headSpec ws rm).room.cells = mc from hrc]; exact hp.1
  have h5 : A.slots + (headSpec ws rm).room.slots ≤ R.slots := by rw [show (headSpec ws rm).room.slots = ms from hrs]; exact hp.2.1
  have hPc : Pc a (A.U.calling g mk a) := hblind _ _ _ _ hp.2.2
  obtain ⟨U, Ls, c0, s0⟩ := A
  dsimp only [Pt.U, Pt.locs, Pt.cells, Pt.slots] at h1 h2 h3 h4 h5 X hn hPc ⊢
  obtain ⟨methY, cY, hmY, hcY, -, hlY, -, -, -, -⟩ := Cond.code_spec hn h2
  obtain ⟨kY, hkY, -⟩ := className_of_methodNamed hn
  have hinitY : kY.init = .initialized := Cond.initialized_spec (findClass_of_methodNamed hn) hkY h3
  have h : At U g.method c below := by rw [hg]; exact X.here
  have hlocals9 : W9 + (maxL + 11) + (headSpec ws rm).room.locals ≤ R.locals := hlocals
  have happ : (headSpec ws rm).appliesLoose y e.platform (U.calling g mk a) = true :=
    Spec.appliesLoose_calling (g := g) h hdg hn hkY hinitY
      (X.room_calling (g := g) (R' := (headSpec ws rm).room) hsize hmY hcY hframes (by rw [hlY]; omega) h4 h5) h1
  obtain ⟨mid, hmid⟩ := h.above
  have hfr : (U.setTop g).frames = (.java g :: mid) ++ below := by rw [State.frames_setTop' g h.top, hmid]; rfl
  obtain ⟨o, s₂, hsteps, -, hend, hq⟩ := Steps.callFree hM p X.admits X.cas X.clock (acts := []) hfr happ hPc trivial
  have hq' : vx_Q Qc XC mc ms free a (U.calling g mk a) o s₂ := hq
  rw [State.frames_setTop' g h.top] at hend
  obtain ⟨g₀, hg0⟩ := Option.isSome_iff_exists.mp h.top
  obtain ⟨r, hr⟩ := State.topJava?_eq_some.mp hg0
  have hr' : (({ U with heap := s₂.heap, slotsUsed := s₂.slotsUsed } : State).setVm s₂.vm).frames = .java g₀ :: r := hr
  rcases hq' with ⟨hqc, L, hfe, hL⟩ | ⟨q, rfl, E, ce, L, hx, hce, hcv, hcl, hW₂, hsm, hL⟩
  · obtain ⟨⟨v, rfl⟩, hW₂, e2, q2, q3, q4, q5, q6⟩ := id hfe
    have e3 : s₂ = ({ (U.calling g mk a).setFrames s₂.frames with heap := s₂.heap, slotsUsed := s₂.slotsUsed } : State).setVm s₂.vm := by
      have : s₂ = ({ s₂ with vm := (U.calling g mk a).vm } : State).setVm s₂.vm := rfl
      rw [e2] at this
      exact this
    obtain ⟨c₂, i₂, len₂, hc₂, hd₂, hf₂⟩ := hend
    have hW' : U.WarmedH s₂.vm := hW₂
    have hcc : c₂ = c := by
      have h1 : s₂.code? g.method = U.code? g.method := by
        rw [State.code?_eq, State.code?_eq, hW'.alike.method?]
      exact Option.some.inj (hc₂.symm.trans (h1.trans h.code))
    subst hcc
    have hlen : len₂ = len := by rw [hdg] at hd₂; cases hd₂; rfl
    subst hlen
    have hs₂ : s₂ = (({ U with heap := s₂.heap, slotsUsed := s₂.slotsUsed } : State).setVm s₂.vm).setTop { g with pc := g.pc + len₂, stack := v.toList ++ g.stack } := by
      refine e3.trans ?_
      rw [hf₂, State.calling_eq h.top, State.setFrames_setFrames, State.setTop_of_frames _ hr', hr]
      rfl
    have hsame : U.sameButNew ({ U with heap := s₂.heap, slotsUsed := s₂.slotsUsed } : State) L mc ms := by
      refine ⟨?_, q2, q3, q4, q5, q6⟩
      obtain ⟨t, ht, -⟩ := State.frames_cons hr
      show ({ U with heap := s₂.heap, slotsUsed := s₂.slotsUsed } : State) = { U.setFrames U.frames with heap := s₂.heap, slotsUsed := s₂.slotsUsed }
      rw [State.setFrames_self ht]
    subst hg
    refine Or.inl ⟨v, ⟨(({ U with heap := s₂.heap, slotsUsed := s₂.slotsUsed } : State).setVm s₂.vm), Ls ++ L, c0 + mc, s0 + ms⟩,
      ⟨X.admits, X.cas, X.clock, X.frames, X.room, X.hears, X.method, X.code, (X.here.setHeapUsed s₂.heap s₂.slotsUsed).setVm hW'.alike, X.tail, State.WarmedH.trans X.warmed hW', X.limits, X.bytes, X.same.trans (hsame.setVm s.vm)⟩,
      ⟨g, mk, s₂, L, rfl, rfl, hqc, rfl, hL, rfl, rfl⟩, ?_⟩
    show Steps p.tables e below _ ((({ U with heap := s₂.heap, slotsUsed := s₂.slotsUsed } : State).setVm s₂.vm).setTop { g with pc := g.pc + len₂, stack := v.toList ++ g.stack })
    rw [← hs₂]
    exact hsteps
  · obtain ⟨e2, q2, q3, q4, q5, q6⟩ := id hsm
    have e3 : s₂ = ({ (U.calling g mk a).setFrames s₂.frames with heap := s₂.heap, slotsUsed := s₂.slotsUsed } : State).setVm s₂.vm := by
      have : s₂ = ({ s₂ with vm := (U.calling g mk a).vm } : State).setVm s₂.vm := rfl
      rw [e2] at this
      exact this
    have hf₂ : s₂.frames = .throwing q :: .java g :: U.frames.tail := hend
    have hW' : U.WarmedH s₂.vm := hW₂
    have hs₂ : s₂ = ((({ U with heap := s₂.heap, slotsUsed := s₂.slotsUsed } : State).setVm s₂.vm).setTop g).pushFrame (.throwing q) := by
      refine e3.trans ?_
      rw [hf₂, State.calling_eq h.top, State.setFrames_setFrames, State.pushFrame, State.frames_setTop _ hr', State.setTop_of_frames _ hr', State.setFrames_setFrames, hr]
      rfl
    have hsame : U.sameButNew ({ U with heap := s₂.heap, slotsUsed := s₂.slotsUsed } : State) L mc ms := by
      refine ⟨?_, q2, q3, q4, q5, q6⟩
      obtain ⟨t, ht, -⟩ := State.frames_cons hr
      show ({ U with heap := s₂.heap, slotsUsed := s₂.slotsUsed } : State) = { U.setFrames U.frames with heap := s₂.heap, slotsUsed := s₂.slotsUsed }
      rw [State.setFrames_self ht]
    subst hg
    refine Or.inr ⟨q, ⟨(({ U with heap := s₂.heap, slotsUsed := s₂.slotsUsed } : State).setVm s₂.vm), Ls ++ L, c0 + mc, s0 + ms⟩,
      ⟨X.admits, X.cas, X.clock, X.frames, X.room, X.hears, X.method, X.code, (X.here.setHeapUsed s₂.heap s₂.slotsUsed).setVm hW'.alike, X.tail, State.WarmedH.trans X.warmed hW', X.limits, X.bytes, X.same.trans (hsame.setVm s.vm)⟩,
      ⟨g, mk, s₂, L, E, ce, rfl, rfl, hx, hce, hcv, hcl, rfl, hL, rfl, rfl⟩, ?_⟩
    show Steps p.tables e below _ (((({ U with heap := s₂.heap, slotsUsed := s₂.slotsUsed } : State).setVm s₂.vm).setTop g).pushFrame (.throwing q))
    rw [← hs₂]
    exact hsteps
end Payer
section Calls
variable {p : Program} {l : Launch} {e : Env} {R : Room} {s : State} {m : MethodId} {args : Array Value} {below : List Frame} {meth : Method} {c : Code} {T : State} {locs : List Loc} {cells slots : Nat}
theorem vx_callV (X : Stand p l e R s m args below meth c T locs cells slots) (hexec : p.tables.exec = Jvm.exec) {own C : String} {index : Nat} {y : MethodName} {bytes : ByteArray} {maxL : Nat} {ret : Option FieldType}
    (hown : s.vm.findClass own = some m.cls) (hlink : (Cond.methodLink own index y).before args s = true) (hinst : (Cond.instanceMethod y).before args s = true) (hsel : (Cond.selects C y y).before args s = true)
    (hcode : (Cond.code y bytes maxL ret).before args s = true) (hy : y.cls ≠ "java/lang/invoke/MethodHandle" ∧ y.cls ≠ "java/lang/invoke/VarHandle")
    {W9 : Nat} {Pre : Pt → Array Value → Prop} {Post : Pt → Array Value → Option Value → Pt → Prop} {PostX : Pt → Array Value → Addr → Pt → Prop} (hK : vx_Back l R p e below s args y 3 W9 Pre Post PostX)
    {b : Addr} {cellB : Cell} (hcell : T.heap[b]? = some cellB) (hobj : cellB.vm.isStatics = false) (hcls : s.vm.findClass C = some cellB.cls)
    {g : JFrame} (hg : g.method = m) (hsize : g.locals.size = c.maxLocals) {argsL rest : List Value} (hlen : ∀ sig, parseMethodDescriptor y.desc = some sig → argsL.length = sig.parameters.length)
    (hstack : g.stack = argsL.reverse ++ .ref b :: rest) (hW : 2 * g.monitorRoom + (rest.map fun v => v.category).sum ≤ W9) (hdg : decode c.code g.pc = .ok (.invokevirtual index, 3))
    (hpre : ∀ vm₁, s.WarmedH vm₁ → Pre ⟨T.setVm vm₁, locs, cells, slots⟩ (Value.ref b :: argsL).toArray) :
    (∃ (v : Option Value) (vm₁ : Vm) (B : Pt), s.WarmedH vm₁ ∧ Stand p l e R s m args below meth c B.U B.locs B.cells B.slots ∧ Post ⟨T.setVm vm₁, locs, cells, slots⟩ (Value.ref b :: argsL).toArray v B ∧
      ∀ target, Steps p.tables e below (B.U.setTop { g with pc := g.pc + 3, stack := v.toList ++ rest }) target → Steps p.tables e below (T.setTop g) target) ∨
    (∃ (q : Addr) (vm₁ : Vm) (B : Pt), s.WarmedH vm₁ ∧ Stand p l e R s m args below meth c B.U B.locs B.cells B.slots ∧ PostX ⟨T.setVm vm₁, locs, cells, slots⟩ (Value.ref b :: argsL).toArray q B ∧
      Steps p.tables e below (T.setTop g) ((B.U.setTop { g with stack := rest }).pushFrame (.throwing q))) := by
  obtain ⟨mk, methM, hnamed, hmethM, hstM, habM⟩ := Cond.instanceMethod_spec hinst
  obtain ⟨methM', cM, hmethM', -, -, -, -, -, -, hsigM⟩ := Cond.code_spec hnamed hcode
  cases hmethM.symm.trans hmethM'
  obtain ⟨c2, r2, m2, q1, q2, q3, q4, kP, hkP, hkPi⟩ := Cond.selects_spec hsel
  cases hcls.symm.trans q1
  cases (State.methodFound?_of_named hnamed hy).symm.trans q2
  cases hnamed.symm.trans q3
  have hselP : selectMethod e.platform s.vm cellB.cls mk = .method mk := by rw [Launch.admits_selectMethod X.admits]; exact q4
  obtain ⟨vm₁, X₁, hstep₁⟩ := X.invokevirtual hexec hown hlink hnamed hmethM hstM hkP hkPi hy (a := b) (cell := cellB) hcell
    (fun z h => by rw [h] at hobj; cases hobj) hselP hmethM habM hkP hkPi (g := g) hg (argsL := argsL) (rest := rest) (hlen _ hsigM) hstack hdg
  rcases hK m meth c ⟨T.setVm vm₁, locs, cells, slots⟩ { g with stack := rest } (.invokevirtual index) mk (Value.ref b :: argsL).toArray X₁ hg hsize hdg hW (X₁.named hnamed) (hpre vm₁ X₁.warmed) with ⟨v, B, X', hpost, hsteps⟩ | ⟨q, B, X', hpost, hsteps⟩
  · exact Or.inl ⟨v, vm₁, B, X₁.warmed, X', hpost, fun target h => hstep₁ _ fun acts => by rw [doInvoke_state]; exact hsteps.trans h⟩
  · exact Or.inr ⟨q, vm₁, B, X₁.warmed, X', hpost, hstep₁ _ fun acts => by rw [doInvoke_state]; exact hsteps⟩
theorem vx_callS (X : Stand p l e R s m args below meth c T locs cells slots) (hexec : p.tables.exec = Jvm.exec) {own : String} {index : Nat} {y : MethodName} {bytes : ByteArray} {maxL : Nat} {ret : Option FieldType}
    (hown : s.vm.findClass own = some m.cls) (hlink : (Cond.methodLink own index y).before args s = true) (hstat : (Cond.static y).before args s = true) (hinit : (Cond.initialized y.cls).before args s = true)
    (hcode : (Cond.code y bytes maxL ret).before args s = true) (hy : y.cls ≠ "java/lang/invoke/MethodHandle" ∧ y.cls ≠ "java/lang/invoke/VarHandle")
    {W9 : Nat} {Pre : Pt → Array Value → Prop} {Post : Pt → Array Value → Option Value → Pt → Prop} {PostX : Pt → Array Value → Addr → Pt → Prop} (hK : vx_Back l R p e below s args y 3 W9 Pre Post PostX)
    {g : JFrame} (hg : g.method = m) (hsize : g.locals.size = c.maxLocals) {argsL rest : List Value} (hlen : ∀ sig, parseMethodDescriptor y.desc = some sig → argsL.length = sig.parameters.length)
    (hstack : g.stack = argsL.reverse ++ rest) (hW : 2 * g.monitorRoom + (rest.map fun v => v.category).sum ≤ W9) (hdg : decode c.code g.pc = .ok (.invokestatic index, 3))
    (hpre : ∀ vm₁, s.WarmedH vm₁ → Pre ⟨T.setVm vm₁, locs, cells, slots⟩ argsL.toArray) :
    (∃ (v : Option Value) (vm₁ : Vm) (B : Pt), s.WarmedH vm₁ ∧ Stand p l e R s m args below meth c B.U B.locs B.cells B.slots ∧ Post ⟨T.setVm vm₁, locs, cells, slots⟩ argsL.toArray v B ∧
      ∀ target, Steps p.tables e below (B.U.setTop { g with pc := g.pc + 3, stack := v.toList ++ rest }) target → Steps p.tables e below (T.setTop g) target) ∨
    (∃ (q : Addr) (vm₁ : Vm) (B : Pt), s.WarmedH vm₁ ∧ Stand p l e R s m args below meth c B.U B.locs B.cells B.slots ∧ PostX ⟨T.setVm vm₁, locs, cells, slots⟩ argsL.toArray q B ∧
      Steps p.tables e below (T.setTop g) ((B.U.setTop { g with stack := rest }).pushFrame (.throwing q))) := by
  obtain ⟨mk, hnamed⟩ := Cond.code_named hcode
  obtain ⟨methM, cM, hmethM, -, -, -, -, -, -, hsigM⟩ := Cond.code_spec hnamed hcode
  have hstatic : methM.isStatic = true := Cond.static_spec hnamed hmethM hstat
  obtain ⟨kP, hkP, -⟩ := className_of_methodNamed hnamed
  have hinitP : kP.init = .initialized := Cond.initialized_spec (findClass_of_methodNamed hnamed) hkP hinit
  obtain ⟨vm₁, X₁, hstep₁⟩ := X.invokestatic hexec hown hlink hnamed hmethM hstatic hkP hinitP hy (g := g) hg (argsL := argsL) (rest := rest) (hlen _ hsigM) hstack hdg
  rcases hK m meth c ⟨T.setVm vm₁, locs, cells, slots⟩ { g with stack := rest } (.invokestatic index) mk argsL.toArray X₁ hg hsize hdg hW (X₁.named hnamed) (hpre vm₁ X₁.warmed) with ⟨v, B, X', hpost, hsteps⟩ | ⟨q, B, X', hpost, hsteps⟩
  · exact Or.inl ⟨v, vm₁, B, X₁.warmed, X', hpost, fun target h => hstep₁ _ fun acts => by rw [doInvoke_state]; exact hsteps.trans h⟩
  · exact Or.inr ⟨q, vm₁, B, X₁.warmed, X', hpost, hstep₁ _ fun acts => by rw [doInvoke_state]; exact hsteps⟩
end Calls
theorem vx_cls {s : State} {T : State} {vm₁ : Vm} {E : String} {k : ClassId} (hW : s.WarmedH vm₁) (h : (T.setVm vm₁).vm.findClass E = some k) : s.vm.findClass E = some k := by
  have h1 : vm₁.findClass E = some k := h
  rw [hW.alike.findClass] at h1
  exact h1
/-- the method's frame g, with q thrown over it -/
def vx_W (p : Program) (l : Launch) (e : Env) (R : Room) (s : State) (m : MethodId) (args : Array Value) (below : List Frame) (meth : Method) (c : Code) (H : Heap) (locs : List Loc) (cells slots : Nat) (Q : State → Prop) (g : JFrame) (q : Addr) : Prop :=
  ∀ T : State, T.heap = H → Stand p l e R s m args below meth c T locs cells slots → ∃ t, Steps p.tables e below ((T.setTop g).pushFrame (.throwing q)) t ∧ Q t
def vx_Run (p : Program) (l : Launch) (e : Env) (R : Room) (s : State) (m : MethodId) (args : Array Value) (below : List Frame) (meth : Method) (c : Code) (H : Heap) (locs : List Loc) (cells slots mc ms : Nat) (g : JFrame) (rest : List Value) (Qa : State → Outcome → State → Prop) (XC : String → State → State → Prop) (free : Addr → Prop) : Prop :=
  ∀ T : State, T.heap = H → Stand p l e R s m args below meth c T locs cells slots →
    (∃ (v : Option Value) (st₀ t T' : State) (L : List Loc), st₀.heap = H ∧ Stand p l e R s m args below meth c T' (locs ++ L) (cells + mc) (slots + ms) ∧ (∀ q ∈ L, free q.base) ∧ T'.heap = t.heap ∧ T'.vm = t.vm ∧ Qa st₀ (.returned v) t ∧
      Goes p e below T g T' { g with pc := g.pc + 3, stack := v.toList ++ rest }) ∨
    (∃ (q : Addr) (st₀ t T' : State) (L : List Loc) (E : String) (ce : Cell), st₀.heap = H ∧ Stand p l e R s m args below meth c T' (locs ++ L) (cells + mc) (slots + ms) ∧ (∀ z ∈ L, free z.base) ∧ T'.heap = t.heap ∧ T'.vm = t.vm ∧ XC E st₀ t ∧ t.heap[q]? = some ce ∧ ce.vm = .none ∧ s.vm.findClass E = some ce.cls ∧
      Steps p.tables e below (T.setTop g) ((T'.setTop { g with stack := rest }).pushFrame (.throwing q)))
def vx_X {S : Type} (px : S → Prop) (B : String → S → State → Prop) (A : Nat → Prop) : String → State → State → Prop := fun E st t => ∃ u : S, px u ∧ B E u t ∧ va_F A st t
section Runs
variable {p : Program} {l : Launch} {e : Env} {R : Room} {s : State} {m : MethodId} {args : Array Value} {below : List Frame} {meth : Method} {c : Code} {H : Heap} {locs : List Loc} {cells slots : Nat}
variable {y : MethodName} {bytes cc : ByteArray} {maxL nL mc ms n index : Nat} {ret : Option FieldType} {ws : List Cond} {rm : Room} {Pc : Array Value → State → Prop} {Qc : Array Value → State → Outcome → State → Prop} {XC : String → State → State → Prop} {free : Addr → Prop} {Ts : List Cond} {own C : String} {b : Addr} {As rest : List Value} {g : JFrame}
theorem vx_callBack (cb : CallB R s args own index y bytes maxL ret ws rm mc ms n) (hM : vx_Met l y ws rm Pc Qc XC mc ms free) (hbl : FrameBlind Pc) : vx_Back l R p e below s args y 3 8 (PreOf R mc ms Pc) (PostOf Qc mc ms free) (vx_Post XC mc ms free) := by
  obtain ⟨hrc, hrs, hfr, hlo, hws, hcw, -, hini, -⟩ := cb
  exact vx_back (bytes := bytes) (maxL := maxL) (ret := ret) hM hbl hrc hrs hfr hlo hws hcw (fun a' U hW => word_at hW (Or.inl (by first | rfl | simp [Cond.onTables, Cond.keeps, Cond.steady])) hini)
theorem vx_runV (S : CallFix p m c cc nL s args Ts own) (hM : vx_Met l y ws rm Pc Qc XC mc ms free) (cw : CallW R s args own C index y bytes maxL ret ws rm mc ms n) (hp : PreV s H C b Pc As)
    (hg : g.method = m) (hn : As.length = n) (hsize : g.locals.size = nL) (hstack : g.stack = As.reverse ++ .ref b :: rest) (hW : 2 * g.monitorRoom + (rest.map fun v => v.category).sum ≤ 8) (hdg : decode cc g.pc = .ok (.invokevirtual index, 3)) (hf : cells + mc ≤ R.cells ∧ slots + ms ≤ R.slots) :
    vx_Run p l e R s m args below meth c H locs cells slots mc ms g rest (Qc (Value.ref b :: As).toArray) XC free := by
  have hK : vx_Back l R p e below s args y 3 8 (PreOf R mc ms Pc) (PostOf Qc mc ms free) (vx_Post XC mc ms free) := vx_callBack cw.1 hM hp.1
  obtain ⟨⟨-, -, -, -, -, -, hcode, -, hy, hlen, hl⟩, hin, hse⟩ := cw
  obtain ⟨hx, hb, hml, ho, -⟩ := S
  obtain ⟨-, ⟨cellB, hcB, hoB, hclB⟩, hPc⟩ := hp
  intro T hT X
  rcases vx_callV X hx (C := C) (bytes := bytes) (maxL := maxL) (ret := ret) ho hl hin hse hcode hy hK (by rw [hT]; exact hcB) hoB hclB hg (hsize.trans hml.symm) (argsL := As) (rest := rest) (fun sig h => hn.trans (hlen sig h)) hstack hW (by rw [hb]; exact hdg)
    (fun vm₁ hW₁ => ⟨hf.1, hf.2, hPc (T.setVm vm₁) hT hW₁⟩) with ⟨v, vm₁, ⟨U', l2, c2, s2⟩, hW₁, X', ⟨g', mk, t, L, e1, e2, hq, h1, hL, h2, h3⟩, st⟩ | ⟨q, vm₁, ⟨U', l2, c2, s2⟩, hW₁, X', ⟨g', mk, t, L, E, ce, e1, e2, hq, hce, hcv, hcl, h1, hL, h2, h3⟩, st⟩
  · dsimp only [Pt.U, Pt.locs, Pt.cells, Pt.slots] at X' e1 e2 h1 h2 h3 st
    subst h1; subst h2; subst h3
    exact Or.inl ⟨v, (T.setVm vm₁).calling g' mk (Value.ref b :: As).toArray, t, U', L, hT, X', hL, e1, e2, hq, st⟩
  · dsimp only [Pt.U, Pt.locs, Pt.cells, Pt.slots] at X' e1 e2 h1 h2 h3 st hcl
    subst h1; subst h2; subst h3
    exact Or.inr ⟨q, (T.setVm vm₁).calling g' mk (Value.ref b :: As).toArray, t, U', L, E, ce, hT, X', hL, e1, e2, hq, hce, hcv, vx_cls hW₁ hcl, st⟩
theorem vx_runS (S : CallFix p m c cc nL s args Ts own) (hM : vx_Met l y ws rm Pc Qc XC mc ms free) (cw : CallB R s args own index y bytes maxL ret ws rm mc ms n ∧ (Cond.static y).before args s = true) (hp : PreS s H Pc As)
    (hg : g.method = m) (hn : As.length = n) (hsize : g.locals.size = nL) (hstack : g.stack = As.reverse ++ rest) (hW : 2 * g.monitorRoom + (rest.map fun v => v.category).sum ≤ 8) (hdg : decode cc g.pc = .ok (.invokestatic index, 3)) (hf : cells + mc ≤ R.cells ∧ slots + ms ≤ R.slots) :
    vx_Run p l e R s m args below meth c H locs cells slots mc ms g rest (Qc As.toArray) XC free := by
  have hK : vx_Back l R p e below s args y 3 8 (PreOf R mc ms Pc) (PostOf Qc mc ms free) (vx_Post XC mc ms free) := vx_callBack cw.1 hM hp.1
  obtain ⟨⟨-, -, -, -, -, -, hcode, hini, hy, hlen, hl⟩, hstt⟩ := cw
  obtain ⟨hx, hb, hml, ho, -⟩ := S
  intro T hT X
  rcases vx_callS X hx (bytes := bytes) (maxL := maxL) (ret := ret) ho hl hstt hini hcode hy hK hg (hsize.trans hml.symm) (argsL := As) (rest := rest) (fun sig h => hn.trans (hlen sig h)) hstack hW (by rw [hb]; exact hdg)
    (fun vm₁ hW₁ => ⟨hf.1, hf.2, hp.2 (T.setVm vm₁) hT hW₁⟩) with ⟨v, vm₁, ⟨U', l2, c2, s2⟩, hW₁, X', ⟨g', mk, t, L, e1, e2, hq, h1, hL, h2, h3⟩, st⟩ | ⟨q, vm₁, ⟨U', l2, c2, s2⟩, hW₁, X', ⟨g', mk, t, L, E, ce, e1, e2, hq, hce, hcv, hcl, h1, hL, h2, h3⟩, st⟩
  · dsimp only [Pt.U, Pt.locs, Pt.cells, Pt.slots] at X' e1 e2 h1 h2 h3 st
    subst h1; subst h2; subst h3
    exact Or.inl ⟨v, (T.setVm vm₁).calling g' mk As.toArray, t, U', L, hT, X', hL, e1, e2, hq, st⟩
  · dsimp only [Pt.U, Pt.locs, Pt.cells, Pt.slots] at X' e1 e2 h1 h2 h3 st hcl
    subst h1; subst h2; subst h3
    exact Or.inr ⟨q, (T.setVm vm₁).calling g' mk As.toArray, t, U', L, E, ce, hT, X', hL, e1, e2, hq, hce, hcv, vx_cls hW₁ hcl, st⟩
end Runs
section Rows
variable {p : Program} {l : Launch} {e : Env} {R : Room} {s : State} {m : MethodId} {args : Array Value} {below : List Frame} {meth : Method} {c : Code} {H : Heap} {locs : List Loc} {cells slots : Nat} {Q : State → Prop}
variable {mc ms : Nat} {free : Addr → Prop} {A0 A1 : Nat → Prop} {H0 : Heap} {a : Array Value} {pc : Nat} {ls : Array Slot} {st0 rest : List Value}
theorem vx_keep {st₀ t T' : State} {L : List Loc} (h0 : st₀.heap = H) (e1 : T'.heap = t.heap) (hS : va_S A0 H0 H locs) (hA : ∀ q, q < H.size → A1 q → A0 q) (hf : ∀ q, free q → A0 q) (hL : ∀ q ∈ L, free q.base) (hF : va_F A1 st₀ t) :
    H.size ≤ T'.heap.size ∧ (∀ q : Nat, q < H.size → ¬ A1 q → T'.heap[q]? = H[q]?) ∧ va_S A0 H0 T'.heap (locs ++ L) := by
  obtain ⟨hz, hk⟩ := hF
  rw [h0] at hz hk
  exact ⟨by rw [e1]; exact hz, fun q h1 h2 => by rw [e1]; exact hk q h1 h2,
    ⟨Nat.le_trans hS.1 (by rw [e1]; exact hz), fun q h1 h2 => by rw [e1, hk q (Nat.lt_of_lt_of_le h1 hS.1) (fun z => h2 (hA q (Nat.lt_of_lt_of_le h1 hS.1) z))]; exact hS.2.1 q h1 h2, fun q hq => by
      rcases List.mem_append.mp hq with h | h
      · exact hS.2.2 q h
      · exact hf _ (hL q h)⟩⟩
theorem vx_calli {S SX : Type} {post : Int32 → S → Prop} {px : SX → Prop} {B : S → State → Prop} {BX : String → SX → State → Prop} {AX : Nat → Prop} (hr : vx_Run p l e R s m args below meth c H locs cells slots mc ms (F0 m pc ls st0) rest (va_Qi post B A1 a) (vx_X px BX AX) free) (hS : va_S A0 H0 H locs) (hA : ∀ q, q < H.size → A1 q → A0 q) (hf : ∀ q, free q → A0 q) (hAX : ∀ q, q < H.size → AX q → A0 q)
    (kx : ∀ (E : String) (ce : Cell) (q9 : Addr) (u : SX) (t : State) (H1 : Heap) (locs1 : List Loc), t.heap = H1 → s.vm.Alike t.vm → px u → BX E u t → H.size ≤ H1.size → (∀ q : Nat, q < H.size → ¬ AX q → H1[q]? = H[q]?) → va_S A0 H0 H1 locs1 → H1[q9]? = some ce → ce.vm = .none → s.vm.findClass E = some ce.cls → vx_W p l e R s m args below meth c H1 locs1 (cells + mc) (slots + ms) Q (F0 m pc ls rest) q9)
    (kk : ∀ (r : Int32) (u : S) (t : State) (H1 : Heap) (locs1 : List Loc), t.heap = H1 → s.vm.Alike t.vm → post r u → B u t → H.size ≤ H1.size → (∀ q : Nat, q < H.size → ¬ A1 q → H1[q]? = H[q]?) → va_S A0 H0 H1 locs1 → W p l e R s m args below meth c H1 locs1 (cells + mc) (slots + ms) Q (F0 m (pc + 3) ls (.int r :: rest))) : W p l e R s m args below meth c H locs cells slots Q (F0 m pc ls st0) := by
  intro T hT X
  rcases hr T hT X with ⟨v, st₀, t, T', L, h0, X', hL, e1, e2, ⟨⟨r, u, hv, hp, hb⟩, hF⟩, st⟩ | ⟨q, st₀, t, T', L, E, ce, h0, X', hL, e1, e2, ⟨u, hp, hb, hF⟩, hce, hcv, hcl, st⟩
  · cases hv
    obtain ⟨k1, k2, k3⟩ := vx_keep h0 e1 hS hA hf hL hF
    obtain ⟨t2, a1, b1⟩ := kk r u t T'.heap (locs ++ L) e1.symm (by rw [← e2]; exact X'.warmed.alike) hp hb k1 k2 k3 T' rfl X'
    exact ⟨t2, st t2 a1, b1⟩
  · obtain ⟨k1, k2, k3⟩ := vx_keep h0 e1 hS hAX hf hL hF
    obtain ⟨t2, a1, b1⟩ := kx E ce q u t T'.heap (locs ++ L) e1.symm (by rw [← e2]; exact X'.warmed.alike) hp hb k1 k2 k3 (by rw [e1]; exact hce) hcv hcl T' rfl X'
    exact ⟨t2, st.trans a1, b1⟩
theorem vx_calll {S SX : Type} {post : Int64 → S → Prop} {px : SX → Prop} {B : S → State → Prop} {BX : String → SX → State → Prop} {AX : Nat → Prop} (hr : vx_Run p l e R s m args below meth c H locs cells slots mc ms (F0 m pc ls st0) rest (va_Ql post B A1 a) (vx_X px BX AX) free) (hS : va_S A0 H0 H locs) (hA : ∀ q, q < H.size → A1 q → A0 q) (hf : ∀ q, free q → A0 q) (hAX : ∀ q, q < H.size → AX q → A0 q)
    (kx : ∀ (E : String) (ce : Cell) (q9 : Addr) (u : SX) (t : State) (H1 : Heap) (locs1 : List Loc), t.heap = H1 → s.vm.Alike t.vm → px u → BX E u t → H.size ≤ H1.size → (∀ q : Nat, q < H.size → ¬ AX q → H1[q]? = H[q]?) → va_S A0 H0 H1 locs1 → H1[q9]? = some ce → ce.vm = .none → s.vm.findClass E = some ce.cls → vx_W p l e R s m args below meth c H1 locs1 (cells + mc) (slots + ms) Q (F0 m pc ls rest) q9)
    (kk : ∀ (r : Int64) (u : S) (t : State) (H1 : Heap) (locs1 : List Loc), t.heap = H1 → s.vm.Alike t.vm → post r u → B u t → H.size ≤ H1.size → (∀ q : Nat, q < H.size → ¬ A1 q → H1[q]? = H[q]?) → va_S A0 H0 H1 locs1 → W p l e R s m args below meth c H1 locs1 (cells + mc) (slots + ms) Q (F0 m (pc + 3) ls (.long r :: rest))) : W p l e R s m args below meth c H locs cells slots Q (F0 m pc ls st0) := by
  intro T hT X
  rcases hr T hT X with ⟨v, st₀, t, T', L, h0, X', hL, e1, e2, ⟨⟨r, u, hv, hp, hb⟩, hF⟩, st⟩ | ⟨q, st₀, t, T', L, E, ce, h0, X', hL, e1, e2, ⟨u, hp, hb, hF⟩, hce, hcv, hcl, st⟩
  · cases hv
    obtain ⟨k1, k2, k3⟩ := vx_keep h0 e1 hS hA hf hL hF
    obtain ⟨t2, a1, b1⟩ := kk r u t T'.heap (locs ++ L) e1.symm (by rw [← e2]; exact X'.warmed.alike) hp hb k1 k2 k3 T' rfl X'
    exact ⟨t2, st t2 a1, b1⟩
  · obtain ⟨k1, k2, k3⟩ := vx_keep h0 e1 hS hAX hf hL hF
    obtain ⟨t2, a1, b1⟩ := kx E ce q u t T'.heap (locs ++ L) e1.symm (by rw [← e2]; exact X'.warmed.alike) hp hb k1 k2 k3 (by rw [e1]; exact hce) hcv hcl T' rfl X'
    exact ⟨t2, st.trans a1, b1⟩
theorem vx_callf {S SX : Type} {post : UInt32 → S → Prop} {px : SX → Prop} {B : S → State → Prop} {BX : String → SX → State → Prop} {AX : Nat → Prop} (hr : vx_Run p l e R s m args below meth c H locs cells slots mc ms (F0 m pc ls st0) rest (va_Qf post B A1 a) (vx_X px BX AX) free) (hS : va_S A0 H0 H locs) (hA : ∀ q, q < H.size → A1 q → A0 q) (hf : ∀ q, free q → A0 q) (hAX : ∀ q, q < H.size → AX q → A0 q)
    (kx : ∀ (E : String) (ce : Cell) (q9 : Addr) (u : SX) (t : State) (H1 : Heap) (locs1 : List Loc), t.heap = H1 → s.vm.Alike t.vm → px u → BX E u t → H.size ≤ H1.size → (∀ q : Nat, q < H.size → ¬ AX q → H1[q]? = H[q]?) → va_S A0 H0 H1 locs1 → H1[q9]? = some ce → ce.vm = .none → s.vm.findClass E = some ce.cls → vx_W p l e R s m args below meth c H1 locs1 (cells + mc) (slots + ms) Q (F0 m pc ls rest) q9)
    (kk : ∀ (r : UInt32) (u : S) (t : State) (H1 : Heap) (locs1 : List Loc), t.heap = H1 → s.vm.Alike t.vm → post r u → B u t → H.size ≤ H1.size → (∀ q : Nat, q < H.size → ¬ A1 q → H1[q]? = H[q]?) → va_S A0 H0 H1 locs1 → W p l e R s m args below meth c H1 locs1 (cells + mc) (slots + ms) Q (F0 m (pc + 3) ls (.float r :: rest))) : W p l e R s m args below meth c H locs cells slots Q (F0 m pc ls st0) := by
  intro T hT X
  rcases hr T hT X with ⟨v, st₀, t, T', L, h0, X', hL, e1, e2, ⟨⟨r, u, hv, hp, hb⟩, hF⟩, st⟩ | ⟨q, st₀, t, T', L, E, ce, h0, X', hL, e1, e2, ⟨u, hp, hb, hF⟩, hce, hcv, hcl, st⟩
  · cases hv
    obtain ⟨k1, k2, k3⟩ := vx_keep h0 e1 hS hA hf hL hF
    obtain ⟨t2, a1, b1⟩ := kk r u t T'.heap (locs ++ L) e1.symm (by rw [← e2]; exact X'.warmed.alike) hp hb k1 k2 k3 T' rfl X'
    exact ⟨t2, st t2 a1, b1⟩
  · obtain ⟨k1, k2, k3⟩ := vx_keep h0 e1 hS hAX hf hL hF
    obtain ⟨t2, a1, b1⟩ := kx E ce q u t T'.heap (locs ++ L) e1.symm (by rw [← e2]; exact X'.warmed.alike) hp hb k1 k2 k3 (by rw [e1]; exact hce) hcv hcl T' rfl X'
    exact ⟨t2, st.trans a1, b1⟩
theorem vx_calld {S SX : Type} {post : UInt64 → S → Prop} {px : SX → Prop} {B : S → State → Prop} {BX : String → SX → State → Prop} {AX : Nat → Prop} (hr : vx_Run p l e R s m args below meth c H locs cells slots mc ms (F0 m pc ls st0) rest (va_Qd post B A1 a) (vx_X px BX AX) free) (hS : va_S A0 H0 H locs) (hA : ∀ q, q < H.size → A1 q → A0 q) (hf : ∀ q, free q → A0 q) (hAX : ∀ q, q < H.size → AX q → A0 q)
    (kx : ∀ (E : String) (ce : Cell) (q9 : Addr) (u : SX) (t : State) (H1 : Heap) (locs1 : List Loc), t.heap = H1 → s.vm.Alike t.vm → px u → BX E u t → H.size ≤ H1.size → (∀ q : Nat, q < H.size → ¬ AX q → H1[q]? = H[q]?) → va_S A0 H0 H1 locs1 → H1[q9]? = some ce → ce.vm = .none → s.vm.findClass E = some ce.cls → vx_W p l e R s m args below meth c H1 locs1 (cells + mc) (slots + ms) Q (F0 m pc ls rest) q9)
    (kk : ∀ (r : UInt64) (u : S) (t : State) (H1 : Heap) (locs1 : List Loc), t.heap = H1 → s.vm.Alike t.vm → post r u → B u t → H.size ≤ H1.size → (∀ q : Nat, q < H.size → ¬ A1 q → H1[q]? = H[q]?) → va_S A0 H0 H1 locs1 → W p l e R s m args below meth c H1 locs1 (cells + mc) (slots + ms) Q (F0 m (pc + 3) ls (.double r :: rest))) : W p l e R s m args below meth c H locs cells slots Q (F0 m pc ls st0) := by
  intro T hT X
  rcases hr T hT X with ⟨v, st₀, t, T', L, h0, X', hL, e1, e2, ⟨⟨r, u, hv, hp, hb⟩, hF⟩, st⟩ | ⟨q, st₀, t, T', L, E, ce, h0, X', hL, e1, e2, ⟨u, hp, hb, hF⟩, hce, hcv, hcl, st⟩
  · cases hv
    obtain ⟨k1, k2, k3⟩ := vx_keep h0 e1 hS hA hf hL hF
    obtain ⟨t2, a1, b1⟩ := kk r u t T'.heap (locs ++ L) e1.symm (by rw [← e2]; exact X'.warmed.alike) hp hb k1 k2 k3 T' rfl X'
    exact ⟨t2, st t2 a1, b1⟩
  · obtain ⟨k1, k2, k3⟩ := vx_keep h0 e1 hS hAX hf hL hF
    obtain ⟨t2, a1, b1⟩ := kx E ce q u t T'.heap (locs ++ L) e1.symm (by rw [← e2]; exact X'.warmed.alike) hp hb k1 k2 k3 (by rw [e1]; exact hce) hcv hcl T' rfl X'
    exact ⟨t2, st.trans a1, b1⟩
theorem vx_callv {S SX : Type} {post : S → Prop} {px : SX → Prop} {B : S → State → Prop} {BX : String → SX → State → Prop} {AX : Nat → Prop} (hr : vx_Run p l e R s m args below meth c H locs cells slots mc ms (F0 m pc ls st0) rest (va_Qv post B A1 a) (vx_X px BX AX) free) (hS : va_S A0 H0 H locs) (hA : ∀ q, q < H.size → A1 q → A0 q) (hf : ∀ q, free q → A0 q) (hAX : ∀ q, q < H.size → AX q → A0 q)
    (kx : ∀ (E : String) (ce : Cell) (q9 : Addr) (u : SX) (t : State) (H1 : Heap) (locs1 : List Loc), t.heap = H1 → s.vm.Alike t.vm → px u → BX E u t → H.size ≤ H1.size → (∀ q : Nat, q < H.size → ¬ AX q → H1[q]? = H[q]?) → va_S A0 H0 H1 locs1 → H1[q9]? = some ce → ce.vm = .none → s.vm.findClass E = some ce.cls → vx_W p l e R s m args below meth c H1 locs1 (cells + mc) (slots + ms) Q (F0 m pc ls rest) q9)
    (kk : ∀ (u : S) (t : State) (H1 : Heap) (locs1 : List Loc), t.heap = H1 → s.vm.Alike t.vm → post u → B u t → H.size ≤ H1.size → (∀ q : Nat, q < H.size → ¬ A1 q → H1[q]? = H[q]?) → va_S A0 H0 H1 locs1 → W p l e R s m args below meth c H1 locs1 (cells + mc) (slots + ms) Q (F0 m (pc + 3) ls (rest))) : W p l e R s m args below meth c H locs cells slots Q (F0 m pc ls st0) := by
  intro T hT X
  rcases hr T hT X with ⟨v, st₀, t, T', L, h0, X', hL, e1, e2, ⟨⟨u, hv, hp, hb⟩, hF⟩, st⟩ | ⟨q, st₀, t, T', L, E, ce, h0, X', hL, e1, e2, ⟨u, hp, hb, hF⟩, hce, hcv, hcl, st⟩
  · cases hv
    obtain ⟨k1, k2, k3⟩ := vx_keep h0 e1 hS hA hf hL hF
    obtain ⟨t2, a1, b1⟩ := kk u t T'.heap (locs ++ L) e1.symm (by rw [← e2]; exact X'.warmed.alike) hp hb k1 k2 k3 T' rfl X'
    exact ⟨t2, st t2 a1, b1⟩
  · obtain ⟨k1, k2, k3⟩ := vx_keep h0 e1 hS hAX hf hL hF
    obtain ⟨t2, a1, b1⟩ := kx E ce q u t T'.heap (locs ++ L) e1.symm (by rw [← e2]; exact X'.warmed.alike) hp hb k1 k2 k3 (by rw [e1]; exact hce) hcv hcl T' rfl X'
    exact ⟨t2, st.trans a1, b1⟩
/-- caught by the row x of this method's table; the rows ahead don't take it -/
theorem vx_catch {own name : String} {E : String} {ce : Cell} {q : Addr} (hown : s.vm.findClass own = some m.cls) (pre : List ExceptionTableEntry) (x : ExceptionTableEntry) (suf : List ExceptionTableEntry) (hsplit : c.exceptionTable.toList = pre ++ x :: suf)
    (hpass : ∀ z ∈ pre, covers z pc = false ∨ (z.catchType ≠ 0 ∧ ∃ nm : String, (Cond.classLink own z.catchType nm).before args s = true ∧ va_Nc E nm s)) (hx : covers x pc = true) (h0 : x.catchType ≠ 0)
    (hlink : (Cond.classLink own x.catchType name).before args s = true) (hcast : (Cond.castable E name).before args s = true) (hcell : H[q]? = some ce) (hv : ce.vm = .none) (hcl : s.vm.findClass E = some ce.cls)
    (kk : W p l e R s m args below meth c H locs cells slots Q (F0 m x.handlerPc ls [.ref q])) : vx_W p l e R s m args below meth c H locs cells slots Q (F0 m pc ls rest) q := by
  intro T hT X
  have hpl : e.platform.magicAccessors = ({} : Platform).magicAccessors := by rw [X.admits.platform]
  obtain ⟨c3, c4, hc3, hc4, hasg⟩ := Cond.castable_spec hcast
  cases Option.some.inj (hc3.symm.trans hcl)
  obtain ⟨c5, hc5, hcl5⟩ := Cond.classLink_spec hown hlink e.platform hpl
  cases Option.some.inj (hc4.symm.trans hc5)
  obtain ⟨vm', X', st⟩ := X.thenCaughtThrough q (g := F0 m pc ls rest) rfl (Steps.refl _) (by rw [hT]; exact hcell) (by rw [hv]; rfl) (by obtain ⟨k9, h9, -⟩ := Vm.findClass_spec hcl; exact ⟨k9, h9⟩) pre x suf hsplit
    (fun z hz => by
      rcases hpass z hz with h | ⟨hz0, nm, hl1, hn1⟩
      · exact Or.inl h
      · obtain ⟨c6, hc6, hcl6⟩ := Cond.classLink_spec hown hl1 e.platform hpl
        obtain ⟨a8, b8, h1, h2, h3⟩ := hn1
        cases Option.some.inj (h1.symm.trans hcl)
        cases Option.some.inj (h2.symm.trans hc6)
        exact Or.inr ⟨hz0, _, hcl6, h3⟩) hx (Or.inr ⟨h0, c4, hcl5, hasg⟩)
  obtain ⟨t, a1, b1⟩ := kk (T.setVm vm') hT X'
  exact ⟨t, st.trans a1, b1⟩
end Rows
section Ends
variable {p : Program} {l : Launch} {e : Env} {R : Room} {s : State} {m : MethodId} {args : Array Value} {below : List Frame} {meth : Method} {c : Code} {H : Heap} {locs : List Loc} {cells slots : Nat} {Q : State → Prop}
variable {mc ms : Nat} {free : Addr → Prop} {A0 A1 : Nat → Prop} {H0 : Heap} {a : Array Value} {ls : Array Slot} {st0 rest : List Value}
variable {Qc : Array Value → State → Outcome → State → Prop} {XC : String → State → State → Prop}
/-- what a body that may throw owes at its end -/
def vx_MQ (below : List Frame) (Qc : Array Value → State → Outcome → State → Prop) (XC : String → State → State → Prop) (a : Array Value) (s : State) (mc ms : Nat) (free : Addr → Prop) : State → Prop := fun t =>
  ∃ o, t.status = .running ∧ Ended t below o ∧ vx_Q Qc XC mc ms free a s o t
theorem vx_ret {g : JFrame} {mc ms : Nat} (k : W p l e R s m args below meth c H locs cells slots (MQ below Qc args s mc ms free) g) : W p l e R s m args below meth c H locs cells slots (vx_MQ below Qc XC args s mc ms free) g := by
  intro T hT X
  obtain ⟨t, a1, o, b1, b2, b3, b4⟩ := k T hT X
  exact ⟨t, a1, o, b1, b2, Or.inl ⟨b3, b4⟩⟩
/-- not caught here: it goes on to the caller -/
theorem vx_widen {g : JFrame} {q : Addr} {k n : Nat} (h1 : cells ≤ k) (h2 : slots ≤ n) (kk : vx_W p l e R s m args below meth c H locs k n Q g q) : vx_W p l e R s m args below meth c H locs cells slots Q g q := fun T hT X => kk T hT (stand_widen X h1 h2)
theorem vx_out {pc : Nat} {E : String} {ce : Cell} {q : Addr} {mc ms : Nat} (hout : ∀ x ∈ c.exceptionTable.toList, covers x pc = false) (hlocks : meth.locks = false) (hcell : H[q]? = some ce) (hv : ce.vm = .none) (hcl : s.vm.findClass E = some ce.cls)
    (hx : ∀ t : State, t.heap = H → s.vm.Alike t.vm → XC E s t) (hf : ∀ z ∈ locs, free z.base) (hc : cells ≤ mc) (hs : slots ≤ ms) :
    vx_W p l e R s m args below meth c H locs cells slots (vx_MQ below Qc XC args s mc ms free) (F0 m pc ls rest) q := by
  intro T hT X
  obtain ⟨st1, hrun, hend, hW, hsm⟩ := X.leaveThrown q (g := F0 m pc ls rest) rfl rfl rfl hout hlocks
  have hcell9 : (T.setFrames (.throwing q :: below)).heap[q]? = some ce := by
    show T.heap[q]? = some ce
    rw [hT]; exact hcell
  exact ⟨_, st1, .threw q, hrun, hend, Or.inr ⟨q, rfl, E, ce, locs, hx _ hT hW.alike, hcell9, hv, hcl, hW, hsm.mono hc hs, hf⟩⟩
theorem vx_frame {U : State} {k n : Nat} (h : s.sameButNew ({ U with vm := s.vm } : State) locs k n) : s.heap.size ≤ U.heap.size ∧ ∀ q : Nat, q < s.heap.size → (∀ z ∈ locs, z.base ≠ q) → U.heap[q]? = s.heap[q]? := by
  obtain ⟨-, h2, -, -, -, h6⟩ := h
  refine ⟨h2, fun q hq hz => ?_⟩
  obtain ⟨c9, e1, e2, e3, e4⟩ := h6 q _ (Array.getElem?_eq_getElem hq)
  have hs : c9.slots = (s.heap[q]).slots := Array.ext_getElem? fun i => e4 i fun hm => hz _ hm rfl
  have h9 : c9 = s.heap[q] := by
    rw [hs] at e2
    exact e2
  have e5 : U.heap[q]? = some c9 := e1
  rw [e5, h9, Array.getElem?_eq_getElem hq]
/-- the words of a throw but the four that speak of the heap -/
def vx_no (w : Cond) : Bool := decide (w ≠ .isRef (.static Bundle.tN "UNASSIGNED_STACK" Bundle.steD)) && decide (w ≠ .isRef (.static Bundle.tN "SUPPRESSED_SENTINEL" Bundle.listD)) && decide (w ≠ .laysStatic Bundle.tN "UNASSIGNED_STACK" Bundle.steD) && decide (w ≠ .laysStatic Bundle.tN "SUPPRESSED_SENTINEL" Bundle.listD)
def vx_at0 (own : String) (ic : Nat) (X : String) (names : List String) : List Cond := (Bundle.ownAtoms0 own ic X names).filter vx_no
def vx_atS (own : String) (ic : Nat) (X : String) (names : List String) : List Cond := (Bundle.ownAtoms own ic X names).filter vx_no
/-- a word that the tables alone decide, or a good one -/
def vx_ot (w : Cond) : Bool := w.onTables || goodWord w
theorem vx_ot_at {args a' : Array Value} {s U : State} {w : Cond} (hW : s.WarmedH U.vm) (hvm : s.vm = U.vm) (hg : vx_ot w = true) (h : w.before args s = true) : w.before a' U = true := by
  simp only [vx_ot, Bool.or_eq_true] at hg
  rcases hg with hg | hg
  · exact va_tabs hg hvm h
  · exact word_at hW (good_of_word hg) h
/-- a list's words: the good ones out of the method's own list, the others by premises of their own -/
theorem vx_hat {args : Array Value} {s : State} {L B : List Cond} (h1 : ∀ w ∈ L.filter goodWord, w.before args s = true) (h2 : ∀ w ∈ L.filter (fun w => !goodWord w), w ∈ B) (h3 : ∀ w ∈ B, w.before args s = true) : ∀ w ∈ L, w.before args s = true := by
  intro w hw
  by_cases g : goodWord w = true
  · exact h1 w (List.mem_filter.mpr ⟨hw, g⟩)
  · refine h3 w (h2 w (List.mem_filter.mpr ⟨hw, ?_⟩))
    show (!goodWord w) = true
    cases hgw : goodWord w
    · rfl
    · exact absurd hgw g
theorem vx_c {args : Array Value} {s : State} {w : Cond} {B : List Cond} (h : w.before args s = true) (t : ∀ w ∈ B, w.before args s = true) : ∀ w' ∈ w :: B, w'.before args s = true := fun w' h' => (List.mem_cons.mp h').elim (fun e => by rw [e]; exact h) (t w')
theorem vx_n {args : Array Value} {s : State} : ∀ w ∈ ([] : List Cond), w.before args s = true := fun _ h => nomatch h
theorem vx_own {args : Array Value} {s : State} {L : List Cond} (h1 : ∀ w ∈ L.filter vx_no, w.before args s = true)
    (hU : (Cond.isRef (.static Bundle.tN "UNASSIGNED_STACK" Bundle.steD)).before args s = true) (hN : (Cond.isRef (.static Bundle.tN "SUPPRESSED_SENTINEL" Bundle.listD)).before args s = true)
    (lU : (Cond.laysStatic Bundle.tN "UNASSIGNED_STACK" Bundle.steD).before args s = true) (lN : (Cond.laysStatic Bundle.tN "SUPPRESSED_SENTINEL" Bundle.listD).before args s = true) : ∀ w ∈ L, w.before args s = true := by
  intro w hw
  by_cases e1 : w = .isRef (.static Bundle.tN "UNASSIGNED_STACK" Bundle.steD)
  · rw [e1]; exact hU
  · by_cases e2 : w = .isRef (.static Bundle.tN "SUPPRESSED_SENTINEL" Bundle.listD)
    · rw [e2]; exact hN
    · by_cases e3 : w = .laysStatic Bundle.tN "UNASSIGNED_STACK" Bundle.steD
      · rw [e3]; exact lU
      · by_cases e4 : w = .laysStatic Bundle.tN "SUPPRESSED_SENTINEL" Bundle.listD
        · rw [e4]; exact lN
        · exact h1 w (List.mem_filter.mpr ⟨hw, by unfold vx_no; rw [decide_eq_true e1, decide_eq_true e2, decide_eq_true e3, decide_eq_true e4]; rfl⟩)
/-- where a static field lies, its class's statics cell in H -/
def vx_L (C n d : String) (A : Nat → Prop) (U : State) (H : Heap) : Prop := ∃ (c : ClassId) (k : Class) (i : Nat) (f : Field) (a : Nat) (cell : Cell), U.vm.findClass C = some c ∧ U.fieldFound? C n d = some (c, k, i, f) ∧ f.isStatic = true ∧ k.statics = some a ∧ H[a]? = some cell ∧ cell.vm.isStatics = true ∧ cell.cls = c ∧ f.slot < cell.slots.size ∧ k.staticTypes[f.slot]? = some f.type ∧ ¬ A a
theorem vx_L.moved {C n d : String} {A : Nat → Prop} {u U : State} {H : Heap} (hvm : u.vm.Alike U.vm) (h : vx_L C n d A u H) : vx_L C n d A U H := by
  obtain ⟨c, k, i, f, a, cell, h1, h2, h3, h4, h5, h6, h7, h8, h9, h10⟩ := h
  obtain ⟨k', hi', he⟩ := State.fieldFound?_setVm hvm h2
  exact ⟨c, k', i, f, a, cell, by rw [hvm.findClass]; exact h1, hi', h3, by rw [he]; exact h4, h5, h6, h7, h8, by rw [he]; exact h9, h10⟩
theorem vx_L.kept {C n d : String} {A : Nat → Prop} {U : State} {H H1 : Heap} (h : vx_L C n d A U H) (hq : ∀ a : Nat, a < H.size → ¬ A a → H1[a]? = H[a]?) : vx_L C n d A U H1 := by
  obtain ⟨c, k, i, f, a, cell, h1, h2, h3, h4, h5, h6, h7, h8, h9, h10⟩ := h
  exact ⟨c, k, i, f, a, cell, h1, h2, h3, h4, by rw [hq a (Array.getElem?_eq_some_iff.mp h5).1 h10]; exact h5, h6, h7, h8, h9, h10⟩
theorem vx_L.narrow {C n d : String} {A B : Nat → Prop} {U : State} {H : Heap} (h : vx_L C n d A U H) (hAB : ∀ q, B q → A q) : vx_L C n d B U H := by
  obtain ⟨c, k, i, f, a, cell, h1, h2, h3, h4, h5, h6, h7, h8, h9, h10⟩ := h
  exact ⟨c, k, i, f, a, cell, h1, h2, h3, h4, h5, h6, h7, h8, h9, fun z => h10 (hAB _ z)⟩
theorem vx_L.word {C n d : String} {A : Nat → Prop} {s : State} {args : Array Value} (h : vx_L C n d A s s.heap) : (Cond.laysStatic C n d).before args s = true := by
  obtain ⟨c, k, i, f, a, cell, h1, h2, h3, h4, h5, h6, h7, h8, h9, -⟩ := h
  show (Cond.laysStatic C n d).holds args s none s [] = true
  exact Cond.laysStatic_of h1 h2 h3 h4 h5 h6 h7 h8 h9
/-- .. and what it holds: null or some reference -/
def vx_Zq (C n d : String) (A : Nat → Prop) (U : State) (H : Heap) : Prop := va_Zq C n d A U H ∧ vx_L C n d A U H
theorem vx_Zq.moved {C n d : String} {A : Nat → Prop} {u U : State} {H : Heap} (hvm : u.vm.Alike U.vm) (h : vx_Zq C n d A u H) : vx_Zq C n d A U H := ⟨va_Zq.moved hvm h.1, vx_L.moved hvm h.2⟩
theorem vx_Zq.kept {C n d : String} {A : Nat → Prop} {U : State} {H H1 : Heap} (h : vx_Zq C n d A U H) (hq : ∀ a : Nat, a < H.size → ¬ A a → H1[a]? = H[a]?) : vx_Zq C n d A U H1 := ⟨va_Zq.kept h.1 hq, vx_L.kept h.2 hq⟩
theorem vx_Zq.narrow {C n d : String} {A B : Nat → Prop} {U : State} {H : Heap} (h : vx_Zq C n d A U H) (hAB : ∀ q, B q → A q) : vx_Zq C n d B U H := ⟨va_Zq.narrow h.1 hAB, vx_L.narrow h.2 hAB⟩
theorem vx_Zqof {args : Array Value} {s : State} {C n d : String} {A : Nat → Prop} (hl : (Cond.laysStatic C n d).before args s = true) (hini : (Cond.initialized C).before args s = true) (h : (Cond.isRef (.static C n d)).before args s = true) (hA : ∀ a : Nat, a < s.heap.size → ¬ A a) : vx_Zq C n d A s s.heap := by
  refine ⟨va_Zqof hl hini h hA, ?_⟩
  obtain ⟨c, k, i, f, a, cell, h1, h2, h3, h4, h5, h6, h7, h8, h9⟩ := Cond.laysStatic_spec hl
  exact ⟨c, k, i, f, a, cell, h1, h2, h3, h4, h5, h6, h7, h8, h9, hA a (Array.getElem?_eq_some_iff.mp h5).1⟩
theorem vx_isRef {C n d : String} {v : Value} {A : Nat → Prop} {s : State} {args : Array Value} (h : va_Z C n d v A s s.heap) (hv : v.isRef = true) : (Cond.isRef (.static C n d)).before args s = true := by
  obtain ⟨cf, kf, fi, f, a, cell, h1, h2, h3, h4, h5, h6, h7, -⟩ := h
  have he : (Term.static C n d).eval args s none [] s = some v := by
    simp [Term.eval, State.fieldNamed?, h1, h2, h4, h5, h6, h7]
  simp only [Cond.before, Cond.holds, Cond.value, he]
  cases v <;> simp_all [Value.isRef]
theorem vx_isRefq {C n d : String} {A : Nat → Prop} {s : State} {args : Array Value} (h : va_Zq C n d A s s.heap) : (Cond.isRef (.static C n d)).before args s = true := by
  rcases h with h | ⟨t, h⟩
  · exact vx_isRef h rfl
  · exact vx_isRef h rfl
/-- the same frame, seen from here: as if the method were called anew in this heap -/
theorem vx_rebase {T : State} (X : Stand p l e R s m args below meth c T locs cells slots) {R' : Room} (hf : R'.frames ≤ R.frames) (hl : R'.locals ≤ R.locals) (hc : cells + R'.cells ≤ R.cells) (hs : slots + R'.slots ≤ R.slots) :
    Stand p l e R' ((T.setVm s.vm).setFrames (.invoking m args :: below)) m args below meth c T [] 0 0 := by
  have htop : (T.setVm s.vm).topJava?.isSome := X.here.top
  have hF : ((T.setVm s.vm).setFrames (.invoking m args :: below)).frames = .invoking m args :: below := State.frames_setFrames _ (State.cur_lt_of_top htop)
  obtain ⟨g₀, hg0⟩ := Option.isSome_iff_exists.mp htop
  obtain ⟨r, hr⟩ := State.topJava?_eq_some.mp hg0
  have hl9 : e.platform.stackLimits (T.setVm s.vm).me = e.platform.stackLimits s.me := X.limits
  have hb9 : (T.setVm s.vm).me.stackBytes = s.me.stackBytes := X.bytes
  refine ⟨X.admits, X.cas, X.clock, hF, ?_, X.hears, X.method, X.code, X.here, X.tail, X.warmed, ?_, ?_, ?_⟩
  · have h := X.room
    have hU : ((T.setVm s.vm).setFrames (.invoking m args :: below)).localsInUse = s.localsInUse := by
      rw [State.localsInUse_invoking hF (meth := meth) (c := c) X.method X.code, State.localsInUse_invoking X.frames X.method X.code]
    simp only [State.hasRoom, Bool.and_eq_true, decide_eq_true_eq] at h ⊢
    obtain ⟨⟨⟨⟨h1, h2, h3, h4, h5, h6⟩, h7⟩, h8⟩, h9⟩ := h
    rw [X.frames, List.length_cons] at h2 h3
    have q1 := X.heapSize
    have q2 := X.used
    simp only [hF, hU, List.length_cons, State.stackLimits_setFrames, State.stackBytes_setFrames, hl9, hb9]
    refine ⟨⟨⟨⟨by omega, by omega, by omega, by omega, by omega, h6⟩, ?_⟩, ?_⟩, X.book⟩
    · show T.heap.size + R'.cells ≤ e.platform.maxCells
      omega
    · show T.slotsUsed + R'.slots ≤ e.platform.maxSlots
      omega
  · rw [State.stackLimits_setFrames]; rfl
  · rw [State.stackBytes_setFrames]; rfl
  · refine ⟨?_, Nat.le_refl _, Nat.le_refl _, ?_, ?_, fun a c9 h9 => ⟨c9, h9, rfl, rfl, fun _ _ => rfl⟩⟩
    · obtain ⟨t, ht, -⟩ := State.frames_cons hr
      show T.setVm s.vm = { ((T.setVm s.vm).setFrames (.invoking m args :: below)).setFrames (T.setVm s.vm).frames with heap := T.heap, slotsUsed := T.slotsUsed }
      rw [State.setFrames_setFrames, State.setFrames_self ht]
      rfl
    · show T.slotsUsed = T.slotsUsed + ((T.heap.toList.drop T.heap.size).map (·.slots.size)).sum
      rw [List.drop_eq_nil_of_le (Nat.le_of_eq Array.length_toList)]
      rfl
    · show ((T.heap.toList.drop T.heap.size).map (·.slots.size)).sum ≤ 0
      rw [List.drop_eq_nil_of_le (Nat.le_of_eq Array.length_toList)]
      exact Nat.le_refl _
/-- 'throw new E()': new; dup; invokespecial; athrow -/
theorem vx_throw0 {cc : ByteArray} {pc : Nat} (hexec : p.tables.exec = Jvm.exec) (hb : c.code = cc) (hl : l.stackTraces = false) {own cls : String} {names : List String} {ik ic mc ms : Nat} {A : Nat → Prop}
    (hown : s.vm.findClass own = some m.cls) (hcls : Bundle.fit cls = true) (hnames : ∀ n ∈ names, Bundle.fit n = true)
    (hk : (Cond.classLink own ik cls).before args s = true) (hini : (Cond.initialized cls).before args s = true) (hat : ∀ w ∈ vx_at0 own ic cls names, w.before args s = true)
    (hgood : ∀ w ∈ Cond.classLink own ik cls :: Cond.initialized cls :: vx_at0 own ic cls names, vx_ot w = true)
    (hU : vx_Zq Bundle.tN "UNASSIGNED_STACK" Bundle.steD A s s.heap) (hN : vx_Zq Bundle.tN "SUPPRESSED_SENTINEL" Bundle.listD A s s.heap) (hS : va_S A s.heap H locs) (hsize : ls.size = c.maxLocals)
    (d0 : decode cc pc = .ok (.new ik, 3)) (d3 : decode cc (pc + 3) = .ok (.dup, 1)) (d4 : decode cc (pc + 4) = .ok (.invokespecial ic, 3)) (d7 : decode cc (pc + 7) = .ok (.athrow, 1))
    (hout : ∀ x ∈ c.exceptionTable.toList, covers x (pc + 7) = false)
    (hRframes : names.length + 3 < R.frames) (hRlocals : (rest.map fun v => v.category).sum + (13 * (names.length + 1) + 42) ≤ R.locals) (hRcells : cells + 1 ≤ R.cells) (hRslots : slots + 6 ≤ R.slots) (hlocks : meth.locks = false)
    (hx : ∀ t : State, s.vm.Alike t.vm → H.size ≤ t.heap.size → (∀ q : Nat, q < H.size → t.heap[q]? = H[q]?) → XC cls s t)
    (hf : ∀ z ∈ locs, free z.base) (hc : cells + 1 ≤ mc) (hs : slots + 6 ≤ ms) :
    W p l e R s m args below meth c H locs cells slots (vx_MQ below Qc XC args s mc ms free) (F0 m pc ls rest) := by
  intro T hT X
  have htr : e.platform.stackTraces = false := (show e.platform.stackTraces = l.stackTraces by rw [X.admits.platform]).trans hl
  have Y := vx_rebase X (R' := { frames := R.frames, locals := R.locals, cells := 1, slots := 6 }) (Nat.le_refl _) (Nat.le_refl _) hRcells hRslots
  obtain ⟨s', hA⟩ : ∃ z, z = (T.setVm s.vm).setFrames (.invoking m args :: below) := ⟨_, rfl⟩
  rw [← hA] at Y
  have hvm : s'.vm = s.vm := by rw [hA]; rfl
  have hhp : s'.heap = H := by rw [hA]; exact hT
  have hW0 : s.WarmedH s'.vm := by rw [hvm]; exact State.WarmedH.refl s
  have hat' : ∀ w ∈ vx_at0 own ic cls names, w.before args s' = true := fun w hw => vx_ot_at hW0 hvm.symm (hgood w (List.mem_cons_of_mem _ (List.mem_cons_of_mem _ hw))) (hat w hw)
  have hk' : (Cond.classLink own ik cls).before args s' = true := vx_ot_at hW0 hvm.symm (hgood _ List.mem_cons_self) hk
  have hini' : (Cond.initialized cls).before args s' = true := vx_ot_at hW0 hvm.symm (hgood _ (List.mem_cons_of_mem _ List.mem_cons_self)) hini
  have hU' : vx_Zq Bundle.tN "UNASSIGNED_STACK" Bundle.steD A s' s'.heap := by rw [hhp]; exact vx_Zq.moved hW0.alike (hU.kept hS.2.1)
  have hN' : vx_Zq Bundle.tN "SUPPRESSED_SENTINEL" Bundle.listD A s' s'.heap := by rw [hhp]; exact vx_Zq.moved hW0.alike (hN.kept hS.2.1)
  have h : ∀ w ∈ Bundle.ownAtoms0 own ic cls names, w.before args s' = true := vx_own hat' (vx_isRefq hU'.1) (vx_isRefq hN'.1) hU'.2.word hN'.2.word
  have hown' : s'.vm.findClass own = some m.cls := by rw [hvm]; exact hown
  have hins : (Cond.instantiable cls 6).before args s' = true := h _ (by simp [Bundle.ownAtoms0])
  obtain ⟨vm₁, cX, kX, hfX, hkX, -, -, X₁, st1⟩ := Y.newCold hexec (own := own) (C := cls) (index := ik) (n := 6) hown' hk' hins hini'
    (g := F0 m pc ls rest) rfl (by rw [hb]; exact d0) (Nat.le_refl _) (Nat.le_refl _)
  generalize hT1 : (T.setVm vm₁).pushCell { cls := cX, slots := kX.instanceTypes.map defaultValue, vm := .none } = T1 at X₁ st1
  have hcat : (Value.ref T.heap.size).category = 1 := rfl
  have hcellA : T1.heap[T.heap.size]? = some (freshCell cX kX) := by rw [← hT1]; exact State.heap_pushCell_size _ _
  have d3' : decode c.code (pc + 3) = .ok (.dup, 1) := by rw [hb]; exact d3
  obtain ⟨U, hsteps, hrun, hend, hW, hsame, ce, hce, hO⟩ := X₁.ctorThrow0 hexec htr (own := own) (cls := cls) (names := names) (ic := ic) hown' hcls hnames h (fun x hx => nomatch hx) hfX hkX hcellA (by rw [hhp, hT]; exact Nat.le_refl _)
    (g := { method := m, pc := pc + 4, locals := ls, stack := .ref T.heap.size :: .ref T.heap.size :: rest, locked := none }) rfl hsize rfl rfl (rest := rest) rfl
    (by rw [hb]; exact d4) (by rw [hb]; exact d7) hout hRframes (by simp only [List.map_cons, List.sum_cons, hcat]; omega) hlocks
  obtain ⟨f1, f2⟩ := vx_frame hsame
  rw [hhp] at f1 f2
  have hWs : s.WarmedH U.vm := State.WarmedH.trans hW0 hW
  have hcl : s.vm.findClass cls = some ce.cls := by
    have h9 := hO.cls
    rw [hvm] at h9
    exact h9
  have hall : s.sameButNew ({ U with vm := s.vm } : State) locs mc ms := by
    subst hA
    obtain ⟨e1, e2⟩ := hsame
    rw [State.setFrames_setFrames] at e1
    have h2 : (T.setVm s.vm).sameButNew ({ U with vm := s.vm } : State) [] (0 + 1) (0 + 6) := ⟨e1, e2⟩
    have h3 := X.same.trans h2
    rw [List.append_nil] at h3
    exact h3.mono hc hs
  refine ⟨U, ?_, .threw T.heap.size, hrun, hend, Or.inr ⟨T.heap.size, rfl, cls, ce, locs, hx U hWs.alike f1 (fun q hq => f2 q hq (fun z hz => nomatch hz)), hce, hO.vm, hcl, hWs, hall, hf⟩⟩
  refine st1 _ ?_
  show Steps p.tables e below (T1.setTop { method := m, pc := pc + 3, locals := ls, stack := .ref T.heap.size :: rest, locked := none }) _
  jvm_step X₁.here [X₁.here.top, hexec, d3', Value.category]
  exact hsteps
/-- 'throw new E("text")': new; dup; ldc; invokespecial; athrow -/
theorem vx_throwS {cc : ByteArray} {pc : Nat} (hexec : p.tables.exec = Jvm.exec) (hb : c.code = cc) (hl : l.stackTraces = false) {own cls text : String} {names : List String} {ik is ic mc ms sa : Nat} {A : Nat → Prop}
    (hown : s.vm.findClass own = some m.cls) (hcls : Bundle.fit cls = true) (hnames : ∀ n ∈ names, Bundle.fit n = true)
    (hk : (Cond.classLink own ik cls).before args s = true) (hini : (Cond.initialized cls).before args s = true) (hstr : vk_R own is text sa s) (hat : ∀ w ∈ vx_atS own ic cls names, w.before args s = true)
    (hgood : ∀ w ∈ Cond.classLink own ik cls :: Cond.initialized cls :: vx_atS own ic cls names, vx_ot w = true)
    (hU : vx_Zq Bundle.tN "UNASSIGNED_STACK" Bundle.steD A s s.heap) (hN : vx_Zq Bundle.tN "SUPPRESSED_SENTINEL" Bundle.listD A s s.heap) (hS : va_S A s.heap H locs) (hsize : ls.size = c.maxLocals)
    (d0 : decode cc pc = .ok (.new ik, 3)) (d3 : decode cc (pc + 3) = .ok (.dup, 1)) (d4 : decode cc (pc + 4) = .ok (.ldc is, 2)) (d6 : decode cc (pc + 6) = .ok (.invokespecial ic, 3)) (d9 : decode cc (pc + 9) = .ok (.athrow, 1))
    (hout : ∀ x ∈ c.exceptionTable.toList, covers x (pc + 9) = false)
    (hRframes : names.length + 3 < R.frames) (hRlocals : (rest.map fun v => v.category).sum + (13 * (names.length + 1) + 43) ≤ R.locals) (hRcells : cells + 1 ≤ R.cells) (hRslots : slots + 6 ≤ R.slots) (hlocks : meth.locks = false)
    (hx : ∀ t : State, s.vm.Alike t.vm → H.size ≤ t.heap.size → (∀ q : Nat, q < H.size → t.heap[q]? = H[q]?) → XC cls s t)
    (hf : ∀ z ∈ locs, free z.base) (hc : cells + 1 ≤ mc) (hs : slots + 6 ≤ ms) :
    W p l e R s m args below meth c H locs cells slots (vx_MQ below Qc XC args s mc ms free) (F0 m pc ls rest) := by
  intro T hT X
  have htr : e.platform.stackTraces = false := (show e.platform.stackTraces = l.stackTraces by rw [X.admits.platform]).trans hl
  have Y := vx_rebase X (R' := { frames := R.frames, locals := R.locals, cells := 1, slots := 6 }) (Nat.le_refl _) (Nat.le_refl _) hRcells hRslots
  obtain ⟨s', hA⟩ : ∃ z, z = (T.setVm s.vm).setFrames (.invoking m args :: below) := ⟨_, rfl⟩
  rw [← hA] at Y
  have hvm : s'.vm = s.vm := by rw [hA]; rfl
  have hhp : s'.heap = H := by rw [hA]; exact hT
  have hW0 : s.WarmedH s'.vm := by rw [hvm]; exact State.WarmedH.refl s
  have hat' : ∀ w ∈ vx_atS own ic cls names, w.before args s' = true := fun w hw => vx_ot_at hW0 hvm.symm (hgood w (List.mem_cons_of_mem _ (List.mem_cons_of_mem _ hw))) (hat w hw)
  have hk' : (Cond.classLink own ik cls).before args s' = true := vx_ot_at hW0 hvm.symm (hgood _ List.mem_cons_self) hk
  have hini' : (Cond.initialized cls).before args s' = true := vx_ot_at hW0 hvm.symm (hgood _ (List.mem_cons_of_mem _ List.mem_cons_self)) hini
  have hU' : vx_Zq Bundle.tN "UNASSIGNED_STACK" Bundle.steD A s' s'.heap := by rw [hhp]; exact vx_Zq.moved hW0.alike (hU.kept hS.2.1)
  have hN' : vx_Zq Bundle.tN "SUPPRESSED_SENTINEL" Bundle.listD A s' s'.heap := by rw [hhp]; exact vx_Zq.moved hW0.alike (hN.kept hS.2.1)
  have h : ∀ w ∈ Bundle.ownAtoms own ic cls names, w.before args s' = true := vx_own hat' (vx_isRefq hU'.1) (vx_isRefq hN'.1) hU'.2.word hN'.2.word
  have hown' : s'.vm.findClass own = some m.cls := by rw [hvm]; exact hown
  have hins : (Cond.instantiable cls 6).before args s' = true := h _ (by simp [Bundle.ownAtoms])
  obtain ⟨vm₁, cX, kX, hfX, hkX, -, -, X₁, st1⟩ := Y.newCold hexec (own := own) (C := cls) (index := ik) (n := 6) hown' hk' hins hini'
    (g := F0 m pc ls rest) rfl (by rw [hb]; exact d0) (Nat.le_refl _) (Nat.le_refl _)
  generalize hT1 : (T.setVm vm₁).pushCell { cls := cX, slots := kX.instanceTypes.map defaultValue, vm := .none } = T1 at X₁ st1
  have hcat : (Value.ref T.heap.size).category = 1 := rfl
  have hcellA : T1.heap[T.heap.size]? = some (freshCell cX kX) := by rw [← hT1]; exact State.heap_pushCell_size _ _
  have d3' : decode c.code (pc + 3) = .ok (.dup, 1) := by rw [hb]; exact d3
  have d4' : decode c.code (pc + 4) = .ok (.ldc is, 2) := by rw [hb]; exact d4
  have hstr' : vk_R own is text sa s' := vk_R.warm hW0 hstr
  obtain ⟨U, hsteps, hrun, hend, hW, hsame, ce, hce, hO⟩ := X₁.ctorThrowS hexec htr (own := own) (cls := cls) (names := names) (ic := ic) hown' hcls hnames h (fun x hx => nomatch hx) hfX hkX hcellA (by rw [hhp, hT]; exact Nat.le_refl _) (msg := .ref sa) rfl
    (g := { method := m, pc := pc + 6, locals := ls, stack := .ref sa :: .ref T.heap.size :: .ref T.heap.size :: rest, locked := none }) rfl hsize rfl rfl (rest := rest) rfl
    (by rw [hb]; exact d6) (by rw [hb]; exact d9) hout hRframes (by simp only [List.map_cons, List.sum_cons, hcat]; omega) hlocks
  obtain ⟨f1, f2⟩ := vx_frame hsame
  rw [hhp] at f1 f2
  have hWs : s.WarmedH U.vm := State.WarmedH.trans hW0 hW
  have hcl : s.vm.findClass cls = some ce.cls := by
    have h9 := hO.cls
    rw [hvm] at h9
    exact h9
  have hall : s.sameButNew ({ U with vm := s.vm } : State) locs mc ms := by
    subst hA
    obtain ⟨e1, e2⟩ := hsame
    rw [State.setFrames_setFrames] at e1
    have h2 : (T.setVm s.vm).sameButNew ({ U with vm := s.vm } : State) [] (0 + 1) (0 + 6) := ⟨e1, e2⟩
    have h3 := X.same.trans h2
    rw [List.append_nil] at h3
    exact h3.mono hc hs
  refine ⟨U, ?_, .threw T.heap.size, hrun, hend, Or.inr ⟨T.heap.size, rfl, cls, ce, locs, hx U hWs.alike f1 (fun q hq => f2 q hq (fun z hz => nomatch hz)), hce, hO.vm, hcl, hWs, hall, hf⟩⟩
  refine st1 _ ?_
  show Steps p.tables e below (T1.setTop { method := m, pc := pc + 3, locals := ls, stack := .ref T.heap.size :: rest, locked := none }) _
  jvm_step X₁.here [X₁.here.top, hexec, d3', Value.category]
  exact X₁.ldcString hexec (own := own) (text := text) (index := is) (a := sa) hown' hstr'.1 hstr'.2
    (g := { method := m, pc := pc + 4, locals := ls, stack := .ref T.heap.size :: .ref T.heap.size :: rest, locked := none }) rfl d4' _ hsteps
/-- 'throw new E("text")', the text by a wide index -/
theorem vx_throwSW {cc : ByteArray} {pc : Nat} (hexec : p.tables.exec = Jvm.exec) (hb : c.code = cc) (hl : l.stackTraces = false) {own cls text : String} {names : List String} {ik is ic mc ms sa : Nat} {A : Nat → Prop}
    (hown : s.vm.findClass own = some m.cls) (hcls : Bundle.fit cls = true) (hnames : ∀ n ∈ names, Bundle.fit n = true)
    (hk : (Cond.classLink own ik cls).before args s = true) (hini : (Cond.initialized cls).before args s = true) (hstr : vk_R own is text sa s) (hat : ∀ w ∈ vx_atS own ic cls names, w.before args s = true)
    (hgood : ∀ w ∈ Cond.classLink own ik cls :: Cond.initialized cls :: vx_atS own ic cls names, vx_ot w = true)
    (hU : vx_Zq Bundle.tN "UNASSIGNED_STACK" Bundle.steD A s s.heap) (hN : vx_Zq Bundle.tN "SUPPRESSED_SENTINEL" Bundle.listD A s s.heap) (hS : va_S A s.heap H locs) (hsize : ls.size = c.maxLocals)
    (d0 : decode cc pc = .ok (.new ik, 3)) (d3 : decode cc (pc + 3) = .ok (.dup, 1)) (d4 : decode cc (pc + 4) = .ok (.ldc_w is, 3)) (d7 : decode cc (pc + 7) = .ok (.invokespecial ic, 3)) (d10 : decode cc (pc + 10) = .ok (.athrow, 1))
    (hout : ∀ x ∈ c.exceptionTable.toList, covers x (pc + 10) = false)
    (hRframes : names.length + 3 < R.frames) (hRlocals : (rest.map fun v => v.category).sum + (13 * (names.length + 1) + 43) ≤ R.locals) (hRcells : cells + 1 ≤ R.cells) (hRslots : slots + 6 ≤ R.slots) (hlocks : meth.locks = false)
    (hx : ∀ t : State, s.vm.Alike t.vm → H.size ≤ t.heap.size → (∀ q : Nat, q < H.size → t.heap[q]? = H[q]?) → XC cls s t)
    (hf : ∀ z ∈ locs, free z.base) (hc : cells + 1 ≤ mc) (hs : slots + 6 ≤ ms) :
    W p l e R s m args below meth c H locs cells slots (vx_MQ below Qc XC args s mc ms free) (F0 m pc ls rest) := by
  intro T hT X
  have htr : e.platform.stackTraces = false := (show e.platform.stackTraces = l.stackTraces by rw [X.admits.platform]).trans hl
  have Y := vx_rebase X (R' := { frames := R.frames, locals := R.locals, cells := 1, slots := 6 }) (Nat.le_refl _) (Nat.le_refl _) hRcells hRslots
  obtain ⟨s', hA⟩ : ∃ z, z = (T.setVm s.vm).setFrames (.invoking m args :: below) := ⟨_, rfl⟩
  rw [← hA] at Y
  have hvm : s'.vm = s.vm := by rw [hA]; rfl
  have hhp : s'.heap = H := by rw [hA]; exact hT
  have hW0 : s.WarmedH s'.vm := by rw [hvm]; exact State.WarmedH.refl s
  have hat' : ∀ w ∈ vx_atS own ic cls names, w.before args s' = true := fun w hw => vx_ot_at hW0 hvm.symm (hgood w (List.mem_cons_of_mem _ (List.mem_cons_of_mem _ hw))) (hat w hw)
  have hk' : (Cond.classLink own ik cls).before args s' = true := vx_ot_at hW0 hvm.symm (hgood _ List.mem_cons_self) hk
  have hini' : (Cond.initialized cls).before args s' = true := vx_ot_at hW0 hvm.symm (hgood _ (List.mem_cons_of_mem _ List.mem_cons_self)) hini
  have hU' : vx_Zq Bundle.tN "UNASSIGNED_STACK" Bundle.steD A s' s'.heap := by rw [hhp]; exact vx_Zq.moved hW0.alike (hU.kept hS.2.1)
  have hN' : vx_Zq Bundle.tN "SUPPRESSED_SENTINEL" Bundle.listD A s' s'.heap := by rw [hhp]; exact vx_Zq.moved hW0.alike (hN.kept hS.2.1)
  have h : ∀ w ∈ Bundle.ownAtoms own ic cls names, w.before args s' = true := vx_own hat' (vx_isRefq hU'.1) (vx_isRefq hN'.1) hU'.2.word hN'.2.word
  have hown' : s'.vm.findClass own = some m.cls := by rw [hvm]; exact hown
  have hins : (Cond.instantiable cls 6).before args s' = true := h _ (by simp [Bundle.ownAtoms])
  obtain ⟨vm₁, cX, kX, hfX, hkX, -, -, X₁, st1⟩ := Y.newCold hexec (own := own) (C := cls) (index := ik) (n := 6) hown' hk' hins hini'
    (g := F0 m pc ls rest) rfl (by rw [hb]; exact d0) (Nat.le_refl _) (Nat.le_refl _)
  generalize hT1 : (T.setVm vm₁).pushCell { cls := cX, slots := kX.instanceTypes.map defaultValue, vm := .none } = T1 at X₁ st1
  have hcat : (Value.ref T.heap.size).category = 1 := rfl
  have hcellA : T1.heap[T.heap.size]? = some (freshCell cX kX) := by rw [← hT1]; exact State.heap_pushCell_size _ _
  have d3' : decode c.code (pc + 3) = .ok (.dup, 1) := by rw [hb]; exact d3
  have d4' : decode c.code (pc + 4) = .ok (.ldc_w is, 3) := by rw [hb]; exact d4
  have hstr' : vk_R own is text sa s' := vk_R.warm hW0 hstr
  obtain ⟨U, hsteps, hrun, hend, hW, hsame, ce, hce, hO⟩ := X₁.ctorThrowS hexec htr (own := own) (cls := cls) (names := names) (ic := ic) hown' hcls hnames h (fun x hx => nomatch hx) hfX hkX hcellA (by rw [hhp, hT]; exact Nat.le_refl _) (msg := .ref sa) rfl
    (g := { method := m, pc := pc + 7, locals := ls, stack := .ref sa :: .ref T.heap.size :: .ref T.heap.size :: rest, locked := none }) rfl hsize rfl rfl (rest := rest) rfl
    (by rw [hb]; exact d7) (by rw [hb]; exact d10) hout hRframes (by simp only [List.map_cons, List.sum_cons, hcat]; omega) hlocks
  obtain ⟨f1, f2⟩ := vx_frame hsame
  rw [hhp] at f1 f2
  have hWs : s.WarmedH U.vm := State.WarmedH.trans hW0 hW
  have hcl : s.vm.findClass cls = some ce.cls := by
    have h9 := hO.cls
    rw [hvm] at h9
    exact h9
  have hall : s.sameButNew ({ U with vm := s.vm } : State) locs mc ms := by
    subst hA
    obtain ⟨e1, e2⟩ := hsame
    rw [State.setFrames_setFrames] at e1
    have h2 : (T.setVm s.vm).sameButNew ({ U with vm := s.vm } : State) [] (0 + 1) (0 + 6) := ⟨e1, e2⟩
    have h3 := X.same.trans h2
    rw [List.append_nil] at h3
    exact h3.mono hc hs
  refine ⟨U, ?_, .threw T.heap.size, hrun, hend, Or.inr ⟨T.heap.size, rfl, cls, ce, locs, hx U hWs.alike f1 (fun q hq => f2 q hq (fun z hz => nomatch hz)), hce, hO.vm, hcl, hWs, hall, hf⟩⟩
  refine st1 _ ?_
  show Steps p.tables e below (T1.setTop { method := m, pc := pc + 3, locals := ls, stack := .ref T.heap.size :: rest, locked := none }) _
  jvm_step X₁.here [X₁.here.top, hexec, d3', Value.category]
  exact X₁.ldcStringW hexec (own := own) (text := text) (index := is) (a := sa) hown' hstr'.1 hstr'.2
    (g := { method := m, pc := pc + 4, locals := ls, stack := .ref T.heap.size :: .ref T.heap.size :: rest, locked := none }) rfl d4' _ hsteps
end Ends
section Bodies
variable {l : Launch}
theorem vx_ofW {y : MethodName} {ws ws' : List Cond} {rm : Room} {Pc : Array Value → State → Prop} {Qc : Array Value → State → Outcome → State → Prop} {XC : String → State → State → Prop} {mc ms : Nat} {free : Addr → Prop} {cc : ByteArray} {maxL : Nat} {ret : Option FieldType}
    (hy : plainName y.cls = true) (hw : ws = Cond.code y cc maxL ret :: ws')
    (body : ∀ p e s m args below meth c s₁, BodyLoose p l y (headSpec ws rm) cc maxL ret e s m args below meth c s₁ → c.maxLocals = maxL → (∀ x ∈ c.exceptionTable.toList, False) → Pc args s →
      W p l e (headSpec ws rm).room s m args below meth c s.heap [] 0 0 (vx_MQ below Qc XC args s mc ms free) (entryFrame m args maxL)) : vx_Met l y ws rm Pc Qc XC mc ms free := by
  refine MetFree.of_bodyS (code := cc) (maxLocals := maxL) (ret := ret) hy ?_ ?_
  · intro args s m h hn
    obtain ⟨meth, c, h1, h2, h3, h4, h5, h6, -, -⟩ := Cond.code_spec hn (atoms_spec (ws := ws) h _ (by rw [hw]; exact List.mem_cons_self))
    exact ⟨meth, c, h1, h2, h3, h4, h5, h6⟩
  · intro p e s m args below meth c s₁ B hml hP _
    have hh0 : s₁.heap = s.heap := by rw [B.state]; rfl
    have ht : ∀ x ∈ c.exceptionTable.toList, False := by
      obtain ⟨meth9, c9, h1, h2, -, -, -, -, h7, -⟩ := Cond.code_spec B.named (atoms_spec (ws := ws) B.pre _ (by rw [hw]; exact List.mem_cons_self))
      cases Option.some.inj (h1.symm.trans B.method)
      cases Option.some.inj (h2.symm.trans (Stand.of_body B).code)
      intro x hx
      rw [Array.isEmpty_iff.mp h7] at hx
      cases hx
    obtain ⟨t, a1, o, b1, b2, b3⟩ := body p e s m args below meth c s₁ B hml ht hP s₁ hh0 (Stand.of_body B)
    exact ⟨t, o, a1, b1, b2, b3⟩
/-- the table of a body with handlers -/
theorem vx_table {p : Program} {x y : MethodName} {S : Spec} {cc bytes : ByteArray} {maxL maxL' : Nat} {ret ret' : Option FieldType} {e : Env} {s s₁ : State} {m : MethodId} {args : Array Value} {below : List Frame} {meth : Method} {c : Code} {hh : List (Nat × Nat × Nat × Nat)}
    (B : BodyLoose p l y S cc maxL ret e s m args below meth c s₁) (h : (Cond.codeWith y bytes maxL' ret' hh).before args s = true) : c.exceptionTable.toList = tableOf hh := by
  obtain ⟨m9, meth9, c9, hn9, h1, h2, -, -, h6, -⟩ := Cond.codeWith_spec h
  cases Option.some.inj (hn9.symm.trans B.named)
  cases Option.some.inj (h1.symm.trans B.method)
  cases Option.some.inj (h2.symm.trans (Stand.of_body B).code)
  rw [← h6, table_eq]
end Bodies
end VXA
/-! ===== END ===== -/
/-! ===== BEGIN a static call of a method with an exception table ===== -/
section VXS
variable {p : Program} {l : Launch} {e : Env} {R : Room} {s : State} {m : MethodId} {args : Array Value} {below : List Frame} {meth : Method} {c : Code} {T : State} {H : Heap} {locs : List Loc} {cells slots : Nat}
abbrev vx_CSW (R : Room) (s : State) (args : Array Value) (own : String) (index : Nat) (y : MethodName) (bytes : ByteArray) (maxL : Nat) (ret : Option FieldType) (hh : List (Nat × Nat × Nat × Nat)) (ws : List Cond) (rm : Room) (mc ms n : Nat) : Prop :=
  (rm.cells = mc ∧ rm.slots = ms ∧ rm.frames + 1 ≤ R.frames ∧ 8 + (maxL + 11) + rm.locals ≤ R.locals ∧ (∀ w ∈ ws, ∀ (a' : Array Value) (U : State), s.WarmedH U.vm → w.before a' U = true) ∧ Cond.codeWith y bytes maxL ret hh ∈ ws) ∧
  (Cond.codeWith y bytes maxL ret hh).before args s = true ∧ (Cond.initialized y.cls).before args s = true ∧ (y.cls ≠ "java/lang/invoke/MethodHandle" ∧ y.cls ≠ "java/lang/invoke/VarHandle") ∧
  (∀ sig, parseMethodDescriptor y.desc = some sig → n = sig.parameters.length) ∧ (Cond.methodLink own index y).before args s = true ∧ (Cond.static y).before args s = true
theorem vx_cwSW {own : String} {index maxL mc ms : Nat} {y : MethodName} {bytes : ByteArray} {ret : Option FieldType} {hh : List (Nat × Nat × Nat × Nat)} {Ts ws ws' : List Cond} {rm : Room} (n : Nat) (ht : ∀ w ∈ Ts, w.before args s = true) (hT : GoodIn Ts (va_wsS own index y ws)) (hw : ws = Cond.codeWith y bytes maxL ret hh :: ws') (hrc : rm.cells = mc) (hrs : rm.slots = ms)
    (hd : y.cls ≠ "java/lang/invoke/MethodHandle" ∧ y.cls ≠ "java/lang/invoke/VarHandle" ∧ (parseMethodDescriptor y.desc).map (fun d => d.parameters.length) = some n) (hR : rm.frames + 1 ≤ R.frames ∧ 8 + (maxL + 11) + rm.locals ≤ R.locals) :
    vx_CSW R s args own index y bytes maxL ret hh ws rm mc ms n := by
  have ok : ∀ w ∈ va_wsS own index y ws, w.before args s = true := fun w h => ht w (hT w h).1
  have hG : GoodIn Ts ws := fun w h => hT w (by unfold va_wsS; exact List.mem_append_right _ h)
  have hc : Cond.codeWith y bytes maxL ret hh ∈ ws := by rw [hw]; exact List.mem_cons_self
  refine ⟨⟨hrc, hrs, hR.1, hR.2, pay_in ht hG, hc⟩, ht _ (hG _ hc).1, ok _ (by simp [va_wsS]), ⟨hd.1, hd.2.1⟩, fun sig h => ?_, ok _ (by simp [va_wsS]), ok _ (by simp [va_wsS])⟩
  have h2 := hd.2.2
  rw [h] at h2
  exact (Option.some.inj h2).symm
theorem vx_callSW (X : Stand p l e R s m args below meth c T locs cells slots) (hexec : p.tables.exec = Jvm.exec) {own : String} {index : Nat} {y : MethodName} {bytes : ByteArray} {maxL : Nat} {ret : Option FieldType} {hh : List (Nat × Nat × Nat × Nat)}
    (hown : s.vm.findClass own = some m.cls) (hlink : (Cond.methodLink own index y).before args s = true) (hstat : (Cond.static y).before args s = true) (hinit : (Cond.initialized y.cls).before args s = true)
    (hcode : (Cond.codeWith y bytes maxL ret hh).before args s = true) (hy : y.cls ≠ "java/lang/invoke/MethodHandle" ∧ y.cls ≠ "java/lang/invoke/VarHandle")
    {W9 : Nat} {Pre : Pt → Array Value → Prop} {Post : Pt → Array Value → Option Value → Pt → Prop} (hK : Back l R p e below s args y 3 W9 Pre Post)
    {g : JFrame} (hg : g.method = m) (hsize : g.locals.size = c.maxLocals) {argsL rest : List Value} (hlen : ∀ sig, parseMethodDescriptor y.desc = some sig → argsL.length = sig.parameters.length)
    (hstack : g.stack = argsL.reverse ++ rest) (hW : 2 * g.monitorRoom + (rest.map fun v => v.category).sum ≤ W9) (hdg : decode c.code g.pc = .ok (.invokestatic index, 3))
    (hpre : ∀ vm₁, s.WarmedH vm₁ → Pre ⟨T.setVm vm₁, locs, cells, slots⟩ argsL.toArray) :
    ∃ (v : Option Value) (vm₁ : Vm) (B : Pt), s.WarmedH vm₁ ∧ Stand p l e R s m args below meth c B.U B.locs B.cells B.slots ∧ Post ⟨T.setVm vm₁, locs, cells, slots⟩ argsL.toArray v B ∧
      ∀ target, Steps p.tables e below (B.U.setTop { g with pc := g.pc + 3, stack := v.toList ++ rest }) target → Steps p.tables e below (T.setTop g) target := by
  obtain ⟨mk, methM, cM, hnamed, hmethM, -, -, -, -, -, -, hsigM⟩ := Cond.codeWith_spec hcode
  have hstatic : methM.isStatic = true := Cond.static_spec hnamed hmethM hstat
  obtain ⟨kP, hkP, -⟩ := className_of_methodNamed hnamed
  have hinitP : kP.init = .initialized := Cond.initialized_spec (findClass_of_methodNamed hnamed) hkP hinit
  obtain ⟨vm₁, X₁, hstep₁⟩ := X.invokestatic hexec hown hlink hnamed hmethM hstatic hkP hinitP hy (g := g) hg (argsL := argsL) (rest := rest) (hlen _ hsigM) hstack hdg
  obtain ⟨v, B, X', hpost, hsteps⟩ := hK m meth c ⟨T.setVm vm₁, locs, cells, slots⟩ { g with stack := rest } (.invokestatic index) mk argsL.toArray X₁ hg hsize hdg hW (X₁.named hnamed) (hpre vm₁ X₁.warmed)
  exact ⟨v, vm₁, B, X₁.warmed, X', hpost, fun target h => hstep₁ _ fun acts => by rw [doInvoke_state]; exact hsteps.trans h⟩
theorem vx_runSW {y : MethodName} {bytes cc : ByteArray} {maxL nL mc ms n index : Nat} {ret : Option FieldType} {hh : List (Nat × Nat × Nat × Nat)} {ws : List Cond} {rm : Room} {Pc : Array Value → State → Prop} {Qc : Array Value → State → Outcome → State → Prop} {free : Addr → Prop} {Ts : List Cond} {own : String} {As rest : List Value} {g : JFrame}
    (S : CallFix p m c cc nL s args Ts own) (hM : Met l y ws rm Pc Qc mc ms free) (cw : vx_CSW R s args own index y bytes maxL ret hh ws rm mc ms n) (hp : PreS s H Pc As)
    (hg : g.method = m) (hn : As.length = n) (hsize : g.locals.size = nL) (hstack : g.stack = As.reverse ++ rest) (hW : 2 * g.monitorRoom + (rest.map fun v => v.category).sum ≤ 8) (hdg : decode cc g.pc = .ok (.invokestatic index, 3)) (hf : cells + mc ≤ R.cells ∧ slots + ms ≤ R.slots) :
    va_Run p l e R s m args below meth c H locs cells slots mc ms g rest (Qc As.toArray) (free) := by
  obtain ⟨⟨hrc, hrs, hfr, hlo, hws, hcw⟩, hcode, hini, hy, hlen, hl, hstt⟩ := cw
  have hK : Back l R p e below s args y 3 8 (PreOf R mc ms Pc) (PostOf Qc mc ms free) := va_backW (hh := hh) (bytes := bytes) (maxL := maxL) (ret := ret) hM hp.1 hrc hrs hfr hlo hws hcw (fun a' U hW => word_at hW (Or.inl (by first | rfl | simp [Cond.onTables, Cond.keeps, Cond.steady])) hini)
  obtain ⟨hx, hb, hml, ho, -⟩ := S
  intro T hT X
  obtain ⟨v, vm₁, ⟨U', l2, c2, s2⟩, hW₁, X', ⟨g', mk, t, L, e1, e2, hq, h1, hL, h2, h3⟩, st⟩ := vx_callSW X hx (hh := hh) (bytes := bytes) (maxL := maxL) (ret := ret) ho hl hstt hini hcode hy hK hg (hsize.trans hml.symm) (argsL := As) (rest := rest) (fun sig h => hn.trans (hlen sig h)) hstack hW (by rw [hb]; exact hdg)
    (fun vm₁ hW₁ => ⟨hf.1, hf.2, hp.2 (T.setVm vm₁) hT hW₁⟩)
  dsimp only [Pt.U, Pt.locs, Pt.cells, Pt.slots] at X' e1 e2 h1 h2 h3 st
  subst h1; subst h2; subst h3
  exact ⟨v, (T.setVm vm₁).calling g' mk As.toArray, t, U', L, hT, X', hL, e1, e2, hq, st⟩
/-- not caught here, past rows that name other classes: it goes on to the caller -/
theorem vx_outP {p : Program} {l : Launch} {e : Env} {R : Room} {s : State} {m : MethodId} {args : Array Value} {below : List Frame} {meth : Method} {c : Code} {H : Heap} {locs : List Loc} {cells slots : Nat} {free : Addr → Prop} {ls : Array Slot} {rest : List Value} {Qc : Array Value → State → Outcome → State → Prop} {XC : String → State → State → Prop}
    {pc : Nat} {own E : String} {ce : Cell} {q : Addr} {mc ms : Nat} (hown : s.vm.findClass own = some m.cls) (hlocks : meth.locks = false)
    (hpass : ∀ z ∈ c.exceptionTable.toList, covers z pc = false ∨ (z.catchType ≠ 0 ∧ ∃ nm : String, (Cond.classLink own z.catchType nm).before args s = true ∧ va_Nc E nm s)) (hcell : H[q]? = some ce) (hv : ce.vm = .none) (hcl : s.vm.findClass E = some ce.cls)
    (hx : ∀ t : State, t.heap = H → s.vm.Alike t.vm → XC E s t) (hf : ∀ z ∈ locs, free z.base) (hc : cells ≤ mc) (hs : slots ≤ ms) :
    vx_W p l e R s m args below meth c H locs cells slots (vx_MQ below Qc XC args s mc ms free) (F0 m pc ls rest) q := by
  intro T hT X
  have hpl : e.platform.magicAccessors = ({} : Platform).magicAccessors := by rw [X.admits.platform]
  obtain ⟨vm', hW', X', st⟩ := X.outThrough hlocks q (g := F0 m pc ls rest) rfl rfl rfl (cell := ce) (by rw [hT]; exact hcell) (by rw [hv]; rfl)
    (by obtain ⟨k9, h9, -⟩ := Vm.findClass_spec hcl; exact ⟨k9, h9⟩) (fun z hz => by
      rcases hpass z hz with h | ⟨hz0, nm, hl1, hn1⟩
      · exact Or.inl h
      · obtain ⟨c6, hc6, hcl6⟩ := Cond.classLink_spec hown hl1 e.platform hpl
        obtain ⟨a8, b8, h1, h2, h3⟩ := hn1
        cases Option.some.inj (h1.symm.trans hcl)
        cases Option.some.inj (h2.symm.trans hc6)
        exact Or.inr ⟨hz0, _, hcl6, h3⟩)
  obtain ⟨g₀, hfr⟩ := X'.frames_eq
  have hcell9 : ((T.setVm vm').setFrames (.throwing q :: below)).heap[q]? = some ce := by
    show T.heap[q]? = some ce
    rw [hT]; exact hcell
  have hend : Ended ((T.setVm vm').setFrames (.throwing q :: below)) below (.threw q) := State.frames_setFrames _ (State.cur_lt_of_frames hfr)
  refine ⟨(T.setVm vm').setFrames (.throwing q :: below), ?_, .threw q, X'.here.running, hend, Or.inr ⟨q, rfl, E, ce, locs, hx _ hT (X'.ends _).1.alike, hcell9, hv, hcl, (X'.ends _).1, (X'.ends _).2.mono hc hs, hf⟩⟩
  rw [X.pushThrowing_eq]
  exact st
/-- a thing of a world lies in the heap -/
theorem vx_lt {D : va_G} {cl : List vw_C} {ws : va_W} {H1 : Heap} (h : va_P D cl ws H1) {k : Nat} {q : Nat × va_E} (hk : ws[k]? = some q) : q.1 < H1.size := (h k q hk).lt
end VXS
/-! ===== END ===== -/
/-! ===== BEGIN methods with a table of their own: called by a name, returning or throwing ===== -/
section VXH
/-! vx_backW, vx_callVX, vx_callSX, vx_callVW, vx_runVW, vx_runVX, vx_runSX, vx_ofWH follow the same proofs as their sisters above (Free/Laws.lean, Shelf42/LK1.lean); vx_outP calls Shelf42/NT130.lean (outThrough). -/
section
variable {l : Launch} {R : Room} {p : Program} {e : Env} {below : List Frame} {s : State} {sargs : Array Value} {y : MethodName} {len W9 : Nat}
theorem vx_backW {ws : List Cond} {rm : Room} {Pc : Array Value → State → Prop} {Qc : Array Value → State → Outcome → State → Prop} {XC : String → State → State → Prop} {mc ms : Nat} {free : Addr → Prop} {bytes : ByteArray} {maxL : Nat} {ret : Option FieldType} {hh : List (Nat × Nat × Nat × Nat)}
    (hM : vx_Met l y ws rm Pc Qc XC mc ms free) (hblind : FrameBlind Pc) (hrc : rm.cells = mc) (hrs : rm.slots = ms)
    (hframes : rm.frames + 1 ≤ R.frames) (hlocals : W9 + (maxL + 11) + rm.locals ≤ R.locals)
    (hws : ∀ w ∈ ws, ∀ a' U, s.WarmedH U.vm → w.before a' U = true) (hcode : Cond.codeWith y bytes maxL ret hh ∈ ws) (hinit : ∀ a' U, s.WarmedH U.vm → (Cond.initialized y.cls).before a' U = true) :
    vx_Back l R p e below s sargs y len W9 (PreOf R mc ms Pc) (PostOf Qc mc ms free) (vx_Post XC mc ms free) := by
  intro m meth c A g ig mk a X hg hsize hdg hW hn hp
  have h1 : (headSpec ws rm).pre.before a A.U = true := atoms_intro fun w hw => hws w hw _ _ X.warmed
  have h2 : (Cond.codeWith y bytes maxL ret hh).before a A.U = true := hws _ hcode _ _ X.warmed
  have h3 : (Cond.initialized y.cls).before a A.U = true := hinit _ _ X.warmed
  have h4 : A.cells + (headSpec ws rm).room.cells ≤ R.cells := by rw [show (headSpec ws rm).room.cells = mc from hrc]; exact hp.1
  have h5 : A.slots + (headSpec ws rm).room.slots ≤ R.slots := by rw [show (headSpec ws rm).room.slots = ms from hrs]; exact hp.2.1
  have hPc : Pc a (A.U.calling g mk a) := hblind _ _ _ _ hp.2.2
  obtain ⟨U, Ls, c0, s0⟩ := A
  dsimp only [Pt.U, Pt.locs, Pt.cells, Pt.slots] at h1 h2 h3 h4 h5 X hn hPc ⊢
  obtain ⟨m9, methY, cY, hn9, hmY, hcY, -, hlY, -⟩ := Cond.codeWith_spec h2
  cases Option.some.inj (hn9.symm.trans hn)
  obtain ⟨kY, hkY, -⟩ := className_of_methodNamed hn
  have hinitY : kY.init = .initialized := Cond.initialized_spec (findClass_of_methodNamed hn) hkY h3
  have h : At U g.method c below := by rw [hg]; exact X.here
  have hlocals9 : W9 + (maxL + 11) + (headSpec ws rm).room.locals ≤ R.locals := hlocals
  have happ : (headSpec ws rm).appliesLoose y e.platform (U.calling g mk a) = true :=
    Spec.appliesLoose_calling (g := g) h hdg hn hkY hinitY
      (X.room_calling (g := g) (R' := (headSpec ws rm).room) hsize hmY hcY hframes (by rw [hlY]; omega) h4 h5) h1
  obtain ⟨mid, hmid⟩ := h.above
  have hfr : (U.setTop g).frames = (.java g :: mid) ++ below := by rw [State.frames_setTop' g h.top, hmid]; rfl
  obtain ⟨o, s₂, hsteps, -, hend, hq⟩ := Steps.callFree hM p X.admits X.cas X.clock (acts := []) hfr happ hPc trivial
  have hq' : vx_Q Qc XC mc ms free a (U.calling g mk a) o s₂ := hq
  rw [State.frames_setTop' g h.top] at hend
  obtain ⟨g₀, hg0⟩ := Option.isSome_iff_exists.mp h.top
  obtain ⟨r, hr⟩ := State.topJava?_eq_some.mp hg0
  have hr' : (({ U with heap := s₂.heap, slotsUsed := s₂.slotsUsed } : State).setVm s₂.vm).frames = .java g₀ :: r := hr
  rcases hq' with ⟨hqc, L, hfe, hL⟩ | ⟨q, rfl, E, ce, L, hx, hce, hcv, hcl, hW₂, hsm, hL⟩
  · obtain ⟨⟨v, rfl⟩, hW₂, e2, q2, q3, q4, q5, q6⟩ := id hfe
    have e3 : s₂ = ({ (U.calling g mk a).setFrames s₂.frames with heap := s₂.heap, slotsUsed := s₂.slotsUsed } : State).setVm s₂.vm := by
      have : s₂ = ({ s₂ with vm := (U.calling g mk a).vm } : State).setVm s₂.vm := rfl
      rw [e2] at this
      exact this
    obtain ⟨c₂, i₂, len₂, hc₂, hd₂, hf₂⟩ := hend
    have hW' : U.WarmedH s₂.vm := hW₂
    have hcc : c₂ = c := by
      have h1 : s₂.code? g.method = U.code? g.method := by
        rw [State.code?_eq, State.code?_eq, hW'.alike.method?]
      exact Option.some.inj (hc₂.symm.trans (h1.trans h.code))
    subst hcc
    have hlen : len₂ = len := by rw [hdg] at hd₂; cases hd₂; rfl
    subst hlen
    have hs₂ : s₂ = (({ U with heap := s₂.heap, slotsUsed := s₂.slotsUsed } : State).setVm s₂.vm).setTop { g with pc := g.pc + len₂, stack := v.toList ++ g.stack } := by
      refine e3.trans ?_
      rw [hf₂, State.calling_eq h.top, State.setFrames_setFrames, State.setTop_of_frames _ hr', hr]
      rfl
    have hsame : U.sameButNew ({ U with heap := s₂.heap, slotsUsed := s₂.slotsUsed } : State) L mc ms := by
      refine ⟨?_, q2, q3, q4, q5, q6⟩
      obtain ⟨t, ht, -⟩ := State.frames_cons hr
      show ({ U with heap := s₂.heap, slotsUsed := s₂.slotsUsed } : State) = { U.setFrames U.frames with heap := s₂.heap, slotsUsed := s₂.slotsUsed }
      rw [State.setFrames_self ht]
    subst hg
    refine Or.inl ⟨v, ⟨(({ U with heap := s₂.heap, slotsUsed := s₂.slotsUsed } : State).setVm s₂.vm), Ls ++ L, c0 + mc, s0 + ms⟩,
      ⟨X.admits, X.cas, X.clock, X.frames, X.room, X.hears, X.method, X.code, (X.here.setHeapUsed s₂.heap s₂.slotsUsed).setVm hW'.alike, X.tail, State.WarmedH.trans X.warmed hW', X.limits, X.bytes, X.same.trans (hsame.setVm s.vm)⟩,
      ⟨g, mk, s₂, L, rfl, rfl, hqc, rfl, hL, rfl, rfl⟩, ?_⟩
    show Steps p.tables e below _ ((({ U with heap := s₂.heap, slotsUsed := s₂.slotsUsed } : State).setVm s₂.vm).setTop { g with pc := g.pc + len₂, stack := v.toList ++ g.stack })
    rw [← hs₂]
    exact hsteps
  · obtain ⟨e2, q2, q3, q4, q5, q6⟩ := id hsm
    have e3 : s₂ = ({ (U.calling g mk a).setFrames s₂.frames with heap := s₂.heap, slotsUsed := s₂.slotsUsed } : State).setVm s₂.vm := by
      have : s₂ = ({ s₂ with vm := (U.calling g mk a).vm } : State).setVm s₂.vm := rfl
      rw [e2] at this
      exact this
    have hf₂ : s₂.frames = .throwing q :: .java g :: U.frames.tail := hend
    have hW' : U.WarmedH s₂.vm := hW₂
    have hs₂ : s₂ = ((({ U with heap := s₂.heap, slotsUsed := s₂.slotsUsed } : State).setVm s₂.vm).setTop g).pushFrame (.throwing q) := by
      refine e3.trans ?_
      rw [hf₂, State.calling_eq h.top, State.setFrames_setFrames, State.pushFrame, State.frames_setTop _ hr', State.setTop_of_frames _ hr', State.setFrames_setFrames, hr]
      rfl
    have hsame : U.sameButNew ({ U with heap := s₂.heap, slotsUsed := s₂.slotsUsed } : State) L mc ms := by
      refine ⟨?_, q2, q3, q4, q5, q6⟩
      obtain ⟨t, ht, -⟩ := State.frames_cons hr
      show ({ U with heap := s₂.heap, slotsUsed := s₂.slotsUsed } : State) = { U.setFrames U.frames with heap := s₂.heap, slotsUsed := s₂.slotsUsed }
      rw [State.setFrames_self ht]
    subst hg
    refine Or.inr ⟨q, ⟨(({ U with heap := s₂.heap, slotsUsed := s₂.slotsUsed } : State).setVm s₂.vm), Ls ++ L, c0 + mc, s0 + ms⟩,
      ⟨X.admits, X.cas, X.clock, X.frames, X.room, X.hears, X.method, X.code, (X.here.setHeapUsed s₂.heap s₂.slotsUsed).setVm hW'.alike, X.tail, State.WarmedH.trans X.warmed hW', X.limits, X.bytes, X.same.trans (hsame.setVm s.vm)⟩,
      ⟨g, mk, s₂, L, E, ce, rfl, rfl, hx, hce, hcv, hcl, rfl, hL, rfl, rfl⟩, ?_⟩
    show Steps p.tables e below _ (((({ U with heap := s₂.heap, slotsUsed := s₂.slotsUsed } : State).setVm s₂.vm).setTop g).pushFrame (.throwing q))
    rw [← hs₂]
    exact hsteps
end
variable {p : Program} {l : Launch} {e : Env} {R : Room} {s : State} {m : MethodId} {args : Array Value} {below : List Frame} {meth : Method} {c : Code} {T : State} {H : Heap} {locs : List Loc} {cells slots : Nat}
theorem vx_callVX (X : Stand p l e R s m args below meth c T locs cells slots) (hexec : p.tables.exec = Jvm.exec) {own C : String} {index : Nat} {y : MethodName} {bytes : ByteArray} {maxL : Nat} {ret : Option FieldType} {hh : List (Nat × Nat × Nat × Nat)}
    (hown : s.vm.findClass own = some m.cls) (hlink : (Cond.methodLink own index y).before args s = true) (hinst : (Cond.instanceMethod y).before args s = true) (hsel : (Cond.selects C y y).before args s = true)
    (hcode : (Cond.codeWith y bytes maxL ret hh).before args s = true) (hy : y.cls ≠ "java/lang/invoke/MethodHandle" ∧ y.cls ≠ "java/lang/invoke/VarHandle")
    {W9 : Nat} {Pre : Pt → Array Value → Prop} {Post : Pt → Array Value → Option Value → Pt → Prop} {PostX : Pt → Array Value → Addr → Pt → Prop} (hK : vx_Back l R p e below s args y 3 W9 Pre Post PostX)
    {b : Addr} {cellB : Cell} (hcell : T.heap[b]? = some cellB) (hobj : cellB.vm.isStatics = false) (hcls : s.vm.findClass C = some cellB.cls)
    {g : JFrame} (hg : g.method = m) (hsize : g.locals.size = c.maxLocals) {argsL rest : List Value} (hlen : ∀ sig, parseMethodDescriptor y.desc = some sig → argsL.length = sig.parameters.length)
    (hstack : g.stack = argsL.reverse ++ .ref b :: rest) (hW : 2 * g.monitorRoom + (rest.map fun v => v.category).sum ≤ W9) (hdg : decode c.code g.pc = .ok (.invokevirtual index, 3))
    (hpre : ∀ vm₁, s.WarmedH vm₁ → Pre ⟨T.setVm vm₁, locs, cells, slots⟩ (Value.ref b :: argsL).toArray) :
    (∃ (v : Option Value) (vm₁ : Vm) (B : Pt), s.WarmedH vm₁ ∧ Stand p l e R s m args below meth c B.U B.locs B.cells B.slots ∧ Post ⟨T.setVm vm₁, locs, cells, slots⟩ (Value.ref b :: argsL).toArray v B ∧
      ∀ target, Steps p.tables e below (B.U.setTop { g with pc := g.pc + 3, stack := v.toList ++ rest }) target → Steps p.tables e below (T.setTop g) target) ∨
    (∃ (q : Addr) (vm₁ : Vm) (B : Pt), s.WarmedH vm₁ ∧ Stand p l e R s m args below meth c B.U B.locs B.cells B.slots ∧ PostX ⟨T.setVm vm₁, locs, cells, slots⟩ (Value.ref b :: argsL).toArray q B ∧
      Steps p.tables e below (T.setTop g) ((B.U.setTop { g with stack := rest }).pushFrame (.throwing q))) := by
  obtain ⟨mk, methM, hnamed, hmethM, hstM, habM⟩ := Cond.instanceMethod_spec hinst
  obtain ⟨m8, methM', cM, hn8, hmethM', -, -, -, -, -, -, hsigM⟩ := Cond.codeWith_spec hcode
  cases Option.some.inj (hn8.symm.trans hnamed)
  cases hmethM.symm.trans hmethM'
  obtain ⟨c2, r2, m2, q1, q2, q3, q4, kP, hkP, hkPi⟩ := Cond.selects_spec hsel
  cases hcls.symm.trans q1
  cases (State.methodFound?_of_named hnamed hy).symm.trans q2
  cases hnamed.symm.trans q3
  have hselP : selectMethod e.platform s.vm cellB.cls mk = .method mk := by rw [Launch.admits_selectMethod X.admits]; exact q4
  obtain ⟨vm₁, X₁, hstep₁⟩ := X.invokevirtual hexec hown hlink hnamed hmethM hstM hkP hkPi hy (a := b) (cell := cellB) hcell
    (fun z h => by rw [h] at hobj; cases hobj) hselP hmethM habM hkP hkPi (g := g) hg (argsL := argsL) (rest := rest) (hlen _ hsigM) hstack hdg
  rcases hK m meth c ⟨T.setVm vm₁, locs, cells, slots⟩ { g with stack := rest } (.invokevirtual index) mk (Value.ref b :: argsL).toArray X₁ hg hsize hdg hW (X₁.named hnamed) (hpre vm₁ X₁.warmed) with ⟨v, B, X', hpost, hsteps⟩ | ⟨q, B, X', hpost, hsteps⟩
  · exact Or.inl ⟨v, vm₁, B, X₁.warmed, X', hpost, fun target h => hstep₁ _ fun acts => by rw [doInvoke_state]; exact hsteps.trans h⟩
  · exact Or.inr ⟨q, vm₁, B, X₁.warmed, X', hpost, hstep₁ _ fun acts => by rw [doInvoke_state]; exact hsteps⟩
theorem vx_callSX (X : Stand p l e R s m args below meth c T locs cells slots) (hexec : p.tables.exec = Jvm.exec) {own : String} {index : Nat} {y : MethodName} {bytes : ByteArray} {maxL : Nat} {ret : Option FieldType} {hh : List (Nat × Nat × Nat × Nat)}
    (hown : s.vm.findClass own = some m.cls) (hlink : (Cond.methodLink own index y).before args s = true) (hstat : (Cond.static y).before args s = true) (hinit : (Cond.initialized y.cls).before args s = true)
    (hcode : (Cond.codeWith y bytes maxL ret hh).before args s = true) (hy : y.cls ≠ "java/lang/invoke/MethodHandle" ∧ y.cls ≠ "java/lang/invoke/VarHandle")
    {W9 : Nat} {Pre : Pt → Array Value → Prop} {Post : Pt → Array Value → Option Value → Pt → Prop} {PostX : Pt → Array Value → Addr → Pt → Prop} (hK : vx_Back l R p e below s args y 3 W9 Pre Post PostX)
    {g : JFrame} (hg : g.method = m) (hsize : g.locals.size = c.maxLocals) {argsL rest : List Value} (hlen : ∀ sig, parseMethodDescriptor y.desc = some sig → argsL.length = sig.parameters.length)
    (hstack : g.stack = argsL.reverse ++ rest) (hW : 2 * g.monitorRoom + (rest.map fun v => v.category).sum ≤ W9) (hdg : decode c.code g.pc = .ok (.invokestatic index, 3))
    (hpre : ∀ vm₁, s.WarmedH vm₁ → Pre ⟨T.setVm vm₁, locs, cells, slots⟩ argsL.toArray) :
    (∃ (v : Option Value) (vm₁ : Vm) (B : Pt), s.WarmedH vm₁ ∧ Stand p l e R s m args below meth c B.U B.locs B.cells B.slots ∧ Post ⟨T.setVm vm₁, locs, cells, slots⟩ argsL.toArray v B ∧
      ∀ target, Steps p.tables e below (B.U.setTop { g with pc := g.pc + 3, stack := v.toList ++ rest }) target → Steps p.tables e below (T.setTop g) target) ∨
    (∃ (q : Addr) (vm₁ : Vm) (B : Pt), s.WarmedH vm₁ ∧ Stand p l e R s m args below meth c B.U B.locs B.cells B.slots ∧ PostX ⟨T.setVm vm₁, locs, cells, slots⟩ argsL.toArray q B ∧
      Steps p.tables e below (T.setTop g) ((B.U.setTop { g with stack := rest }).pushFrame (.throwing q))) := by
  obtain ⟨mk, methM, cM, hnamed, hmethM, -, -, -, -, -, -, hsigM⟩ := Cond.codeWith_spec hcode
  have hstatic : methM.isStatic = true := Cond.static_spec hnamed hmethM hstat
  obtain ⟨kP, hkP, -⟩ := className_of_methodNamed hnamed
  have hinitP : kP.init = .initialized := Cond.initialized_spec (findClass_of_methodNamed hnamed) hkP hinit
  obtain ⟨vm₁, X₁, hstep₁⟩ := X.invokestatic hexec hown hlink hnamed hmethM hstatic hkP hinitP hy (g := g) hg (argsL := argsL) (rest := rest) (hlen _ hsigM) hstack hdg
  rcases hK m meth c ⟨T.setVm vm₁, locs, cells, slots⟩ { g with stack := rest } (.invokestatic index) mk argsL.toArray X₁ hg hsize hdg hW (X₁.named hnamed) (hpre vm₁ X₁.warmed) with ⟨v, B, X', hpost, hsteps⟩ | ⟨q, B, X', hpost, hsteps⟩
  · exact Or.inl ⟨v, vm₁, B, X₁.warmed, X', hpost, fun target h => hstep₁ _ fun acts => by rw [doInvoke_state]; exact hsteps.trans h⟩
  · exact Or.inr ⟨q, vm₁, B, X₁.warmed, X', hpost, hstep₁ _ fun acts => by rw [doInvoke_state]; exact hsteps⟩
theorem vx_callVW (X : Stand p l e R s m args below meth c T locs cells slots) (hexec : p.tables.exec = Jvm.exec) {own C : String} {index : Nat} {y : MethodName} {bytes : ByteArray} {maxL : Nat} {ret : Option FieldType} {hh : List (Nat × Nat × Nat × Nat)}
    (hown : s.vm.findClass own = some m.cls) (hlink : (Cond.methodLink own index y).before args s = true) (hinst : (Cond.instanceMethod y).before args s = true) (hsel : (Cond.selects C y y).before args s = true)
    (hcode : (Cond.codeWith y bytes maxL ret hh).before args s = true) (hy : y.cls ≠ "java/lang/invoke/MethodHandle" ∧ y.cls ≠ "java/lang/invoke/VarHandle")
    {W9 : Nat} {Pre : Pt → Array Value → Prop} {Post : Pt → Array Value → Option Value → Pt → Prop} (hK : Back l R p e below s args y 3 W9 Pre Post)
    {b : Addr} {cellB : Cell} (hcell : T.heap[b]? = some cellB) (hobj : cellB.vm.isStatics = false) (hcls : s.vm.findClass C = some cellB.cls)
    {g : JFrame} (hg : g.method = m) (hsize : g.locals.size = c.maxLocals) {argsL rest : List Value} (hlen : ∀ sig, parseMethodDescriptor y.desc = some sig → argsL.length = sig.parameters.length)
    (hstack : g.stack = argsL.reverse ++ .ref b :: rest) (hW : 2 * g.monitorRoom + (rest.map fun v => v.category).sum ≤ W9) (hdg : decode c.code g.pc = .ok (.invokevirtual index, 3))
    (hpre : ∀ vm₁, s.WarmedH vm₁ → Pre ⟨T.setVm vm₁, locs, cells, slots⟩ (Value.ref b :: argsL).toArray) :
    ∃ (v : Option Value) (vm₁ : Vm) (B : Pt), s.WarmedH vm₁ ∧ Stand p l e R s m args below meth c B.U B.locs B.cells B.slots ∧ Post ⟨T.setVm vm₁, locs, cells, slots⟩ (Value.ref b :: argsL).toArray v B ∧
      ∀ target, Steps p.tables e below (B.U.setTop { g with pc := g.pc + 3, stack := v.toList ++ rest }) target → Steps p.tables e below (T.setTop g) target := by
  obtain ⟨mk, methM, hnamed, hmethM, hstM, habM⟩ := Cond.instanceMethod_spec hinst
  obtain ⟨m8, methM', cM, hn8, hmethM', -, -, -, -, -, -, hsigM⟩ := Cond.codeWith_spec hcode
  cases Option.some.inj (hn8.symm.trans hnamed)
  cases hmethM.symm.trans hmethM'
  obtain ⟨c2, r2, m2, q1, q2, q3, q4, kP, hkP, hkPi⟩ := Cond.selects_spec hsel
  cases hcls.symm.trans q1
  cases (State.methodFound?_of_named hnamed hy).symm.trans q2
  cases hnamed.symm.trans q3
  have hselP : selectMethod e.platform s.vm cellB.cls mk = .method mk := by rw [Launch.admits_selectMethod X.admits]; exact q4
  obtain ⟨vm₁, X₁, hstep₁⟩ := X.invokevirtual hexec hown hlink hnamed hmethM hstM hkP hkPi hy (a := b) (cell := cellB) hcell
    (fun z h => by rw [h] at hobj; cases hobj) hselP hmethM habM hkP hkPi (g := g) hg (argsL := argsL) (rest := rest) (hlen _ hsigM) hstack hdg
  obtain ⟨v, B, X', hpost, hsteps⟩ := hK m meth c ⟨T.setVm vm₁, locs, cells, slots⟩ { g with stack := rest } (.invokevirtual index) mk (Value.ref b :: argsL).toArray X₁ hg hsize hdg hW (X₁.named hnamed) (hpre vm₁ X₁.warmed)
  exact ⟨v, vm₁, B, X₁.warmed, X', hpost, fun target h => hstep₁ _ fun acts => by rw [doInvoke_state]; exact hsteps.trans h⟩
abbrev vx_CVW (R : Room) (s : State) (args : Array Value) (own C : String) (index : Nat) (y : MethodName) (bytes : ByteArray) (maxL : Nat) (ret : Option FieldType) (hh : List (Nat × Nat × Nat × Nat)) (ws : List Cond) (rm : Room) (mc ms n : Nat) : Prop :=
  (rm.cells = mc ∧ rm.slots = ms ∧ rm.frames + 1 ≤ R.frames ∧ 8 + (maxL + 11) + rm.locals ≤ R.locals ∧ (∀ w ∈ ws, ∀ (a' : Array Value) (U : State), s.WarmedH U.vm → w.before a' U = true) ∧ Cond.codeWith y bytes maxL ret hh ∈ ws) ∧
  (Cond.codeWith y bytes maxL ret hh).before args s = true ∧ (Cond.initialized y.cls).before args s = true ∧ (y.cls ≠ "java/lang/invoke/MethodHandle" ∧ y.cls ≠ "java/lang/invoke/VarHandle") ∧
  (∀ sig, parseMethodDescriptor y.desc = some sig → n = sig.parameters.length) ∧ (Cond.methodLink own index y).before args s = true ∧ (Cond.instanceMethod y).before args s = true ∧ (Cond.selects C y y).before args s = true
theorem vx_cwVW {own C : String} {index maxL mc ms : Nat} {y : MethodName} {bytes : ByteArray} {ret : Option FieldType} {hh : List (Nat × Nat × Nat × Nat)} {Ts ws ws' : List Cond} {rm : Room} (n : Nat) (ht : ∀ w ∈ Ts, w.before args s = true) (hT : GoodIn Ts (wsV own index C y ws)) (hw : ws = Cond.codeWith y bytes maxL ret hh :: ws') (hrc : rm.cells = mc) (hrs : rm.slots = ms)
    (hd : y.cls = C ∧ y.cls ≠ "java/lang/invoke/MethodHandle" ∧ y.cls ≠ "java/lang/invoke/VarHandle" ∧ (parseMethodDescriptor y.desc).map (fun d => d.parameters.length) = some n) (hR : rm.frames + 1 ≤ R.frames ∧ 8 + (maxL + 11) + rm.locals ≤ R.locals) :
    vx_CVW R s args own C index y bytes maxL ret hh ws rm mc ms n := by
  obtain ⟨hC, hd⟩ := hd
  subst hC
  have ok : ∀ w ∈ wsV own index y.cls y ws, w.before args s = true := fun w h => ht w (hT w h).1
  have hG : GoodIn Ts ws := fun w h => hT w (by unfold wsV; exact List.mem_append_right _ h)
  have hc : Cond.codeWith y bytes maxL ret hh ∈ ws := by rw [hw]; exact List.mem_cons_self
  refine ⟨⟨hrc, hrs, hR.1, hR.2, pay_in ht hG, hc⟩, ht _ (hG _ hc).1, ok _ (by simp [wsV]), ⟨hd.1, hd.2.1⟩, fun sig h => ?_, ok _ (by simp [wsV]), ok _ (by simp [wsV]), ok _ (by simp [wsV])⟩
  have h2 := hd.2.2
  rw [h] at h2
  exact (Option.some.inj h2).symm
theorem vx_runVW {y : MethodName} {bytes cc : ByteArray} {maxL nL mc ms n index : Nat} {ret : Option FieldType} {hh : List (Nat × Nat × Nat × Nat)} {ws : List Cond} {rm : Room} {Pc : Array Value → State → Prop} {Qc : Array Value → State → Outcome → State → Prop} {free : Addr → Prop} {Ts : List Cond} {own C : String} {b : Addr} {As rest : List Value} {g : JFrame}
    (S : CallFix p m c cc nL s args Ts own) (hM : Met l y ws rm Pc Qc mc ms free) (cw : vx_CVW R s args own C index y bytes maxL ret hh ws rm mc ms n) (hp : PreV s H C b Pc As)
    (hg : g.method = m) (hn : As.length = n) (hsize : g.locals.size = nL) (hstack : g.stack = As.reverse ++ .ref b :: rest) (hW : 2 * g.monitorRoom + (rest.map fun v => v.category).sum ≤ 8) (hdg : decode cc g.pc = .ok (.invokevirtual index, 3)) (hf : cells + mc ≤ R.cells ∧ slots + ms ≤ R.slots) :
    va_Run p l e R s m args below meth c H locs cells slots mc ms g rest (Qc (Value.ref b :: As).toArray) free := by
  obtain ⟨⟨hrc, hrs, hfr, hlo, hws, hcw⟩, hcode, hini, hy, hlen, hl, hin, hse⟩ := cw
  have hK : Back l R p e below s args y 3 8 (PreOf R mc ms Pc) (PostOf Qc mc ms free) := va_backW (hh := hh) (bytes := bytes) (maxL := maxL) (ret := ret) hM hp.1 hrc hrs hfr hlo hws hcw (fun a' U hW => word_at hW (Or.inl (by first | rfl | simp [Cond.onTables, Cond.keeps, Cond.steady])) hini)
  obtain ⟨hx, hb, hml, ho, -⟩ := S
  obtain ⟨-, ⟨cellB, hcB, hoB, hclB⟩, hPc⟩ := hp
  intro T hT X
  obtain ⟨v, vm₁, ⟨U', l2, c2, s2⟩, hW₁, X', ⟨g', mk, t, L, e1, e2, hq, h1, hL, h2, h3⟩, st⟩ := vx_callVW X hx (C := C) (hh := hh) (bytes := bytes) (maxL := maxL) (ret := ret) ho hl hin hse hcode hy hK (by rw [hT]; exact hcB) hoB hclB hg (hsize.trans hml.symm) (argsL := As) (rest := rest) (fun sig h => hn.trans (hlen sig h)) hstack hW (by rw [hb]; exact hdg)
    (fun vm₁ hW₁ => ⟨hf.1, hf.2, hPc (T.setVm vm₁) hT hW₁⟩)
  dsimp only [Pt.U, Pt.locs, Pt.cells, Pt.slots] at X' e1 e2 h1 h2 h3 st
  subst h1; subst h2; subst h3
  exact ⟨v, (T.setVm vm₁).calling g' mk (Value.ref b :: As).toArray, t, U', L, hT, X', hL, e1, e2, hq, st⟩
section
variable {y : MethodName} {bytes cc : ByteArray} {maxL nL mc ms n index : Nat} {ret : Option FieldType} {ws : List Cond} {rm : Room} {Pc : Array Value → State → Prop} {Qc : Array Value → State → Outcome → State → Prop} {XC : String → State → State → Prop} {free : Addr → Prop} {Ts : List Cond} {own C : String} {b : Addr} {As rest : List Value} {g : JFrame}
theorem vx_runVX {hh : List (Nat × Nat × Nat × Nat)} (S : CallFix p m c cc nL s args Ts own) (hM : vx_Met l y ws rm Pc Qc XC mc ms free) (cw : vx_CVW R s args own C index y bytes maxL ret hh ws rm mc ms n) (hp : PreV s H C b Pc As)
    (hg : g.method = m) (hn : As.length = n) (hsize : g.locals.size = nL) (hstack : g.stack = As.reverse ++ .ref b :: rest) (hW : 2 * g.monitorRoom + (rest.map fun v => v.category).sum ≤ 8) (hdg : decode cc g.pc = .ok (.invokevirtual index, 3)) (hf : cells + mc ≤ R.cells ∧ slots + ms ≤ R.slots) :
    vx_Run p l e R s m args below meth c H locs cells slots mc ms g rest (Qc (Value.ref b :: As).toArray) XC free := by
  obtain ⟨⟨hrc, hrs, hfr, hlo, hws, hcw⟩, hcode, hini, hy, hlen, hl, hin, hse⟩ := cw
  have hK : vx_Back l R p e below s args y 3 8 (PreOf R mc ms Pc) (PostOf Qc mc ms free) (vx_Post XC mc ms free) := vx_backW (hh := hh) (bytes := bytes) (maxL := maxL) (ret := ret) hM hp.1 hrc hrs hfr hlo hws hcw (fun a' U hW => word_at hW (Or.inl (by first | rfl | simp [Cond.onTables, Cond.keeps, Cond.steady])) hini)
  obtain ⟨hx, hb, hml, ho, -⟩ := S
  obtain ⟨-, ⟨cellB, hcB, hoB, hclB⟩, hPc⟩ := hp
  intro T hT X
  rcases vx_callVX X hx (C := C) (hh := hh) (bytes := bytes) (maxL := maxL) (ret := ret) ho hl hin hse hcode hy hK (by rw [hT]; exact hcB) hoB hclB hg (hsize.trans hml.symm) (argsL := As) (rest := rest) (fun sig h => hn.trans (hlen sig h)) hstack hW (by rw [hb]; exact hdg)
    (fun vm₁ hW₁ => ⟨hf.1, hf.2, hPc (T.setVm vm₁) hT hW₁⟩) with ⟨v, vm₁, ⟨U', l2, c2, s2⟩, hW₁, X', ⟨g', mk, t, L, e1, e2, hq, h1, hL, h2, h3⟩, st⟩ | ⟨q, vm₁, ⟨U', l2, c2, s2⟩, hW₁, X', ⟨g', mk, t, L, E, ce, e1, e2, hq, hce, hcv, hcl, h1, hL, h2, h3⟩, st⟩
  · dsimp only [Pt.U, Pt.locs, Pt.cells, Pt.slots] at X' e1 e2 h1 h2 h3 st
    subst h1; subst h2; subst h3
    exact Or.inl ⟨v, (T.setVm vm₁).calling g' mk (Value.ref b :: As).toArray, t, U', L, hT, X', hL, e1, e2, hq, st⟩
  · dsimp only [Pt.U, Pt.locs, Pt.cells, Pt.slots] at X' e1 e2 h1 h2 h3 st hcl
    subst h1; subst h2; subst h3
    exact Or.inr ⟨q, (T.setVm vm₁).calling g' mk (Value.ref b :: As).toArray, t, U', L, E, ce, hT, X', hL, e1, e2, hq, hce, hcv, vx_cls hW₁ hcl, st⟩
theorem vx_runSX {hh : List (Nat × Nat × Nat × Nat)} (S : CallFix p m c cc nL s args Ts own) (hM : vx_Met l y ws rm Pc Qc XC mc ms free) (cw : vx_CSW R s args own index y bytes maxL ret hh ws rm mc ms n) (hp : PreS s H Pc As)
    (hg : g.method = m) (hn : As.length = n) (hsize : g.locals.size = nL) (hstack : g.stack = As.reverse ++ rest) (hW : 2 * g.monitorRoom + (rest.map fun v => v.category).sum ≤ 8) (hdg : decode cc g.pc = .ok (.invokestatic index, 3)) (hf : cells + mc ≤ R.cells ∧ slots + ms ≤ R.slots) :
    vx_Run p l e R s m args below meth c H locs cells slots mc ms g rest (Qc As.toArray) XC free := by
  obtain ⟨⟨hrc, hrs, hfr, hlo, hws, hcw⟩, hcode, hini, hy, hlen, hl, hstt⟩ := cw
  have hK : vx_Back l R p e below s args y 3 8 (PreOf R mc ms Pc) (PostOf Qc mc ms free) (vx_Post XC mc ms free) := vx_backW (hh := hh) (bytes := bytes) (maxL := maxL) (ret := ret) hM hp.1 hrc hrs hfr hlo hws hcw (fun a' U hW => word_at hW (Or.inl (by first | rfl | simp [Cond.onTables, Cond.keeps, Cond.steady])) hini)
  obtain ⟨hx, hb, hml, ho, -⟩ := S
  intro T hT X
  rcases vx_callSX X hx (hh := hh) (bytes := bytes) (maxL := maxL) (ret := ret) ho hl hstt hini hcode hy hK hg (hsize.trans hml.symm) (argsL := As) (rest := rest) (fun sig h => hn.trans (hlen sig h)) hstack hW (by rw [hb]; exact hdg)
    (fun vm₁ hW₁ => ⟨hf.1, hf.2, hp.2 (T.setVm vm₁) hT hW₁⟩) with ⟨v, vm₁, ⟨U', l2, c2, s2⟩, hW₁, X', ⟨g', mk, t, L, e1, e2, hq, h1, hL, h2, h3⟩, st⟩ | ⟨q, vm₁, ⟨U', l2, c2, s2⟩, hW₁, X', ⟨g', mk, t, L, E, ce, e1, e2, hq, hce, hcv, hcl, h1, hL, h2, h3⟩, st⟩
  · dsimp only [Pt.U, Pt.locs, Pt.cells, Pt.slots] at X' e1 e2 h1 h2 h3 st
    subst h1; subst h2; subst h3
    exact Or.inl ⟨v, (T.setVm vm₁).calling g' mk As.toArray, t, U', L, hT, X', hL, e1, e2, hq, st⟩
  · dsimp only [Pt.U, Pt.locs, Pt.cells, Pt.slots] at X' e1 e2 h1 h2 h3 st hcl
    subst h1; subst h2; subst h3
    exact Or.inr ⟨q, (T.setVm vm₁).calling g' mk As.toArray, t, U', L, E, ce, hT, X', hL, e1, e2, hq, hce, hcv, vx_cls hW₁ hcl, st⟩
end
end VXH
theorem vx_ofWH {l : Launch} {y : MethodName} {ws ws' : List Cond} {rm : Room} {Pc : Array Value → State → Prop} {Qc : Array Value → State → Outcome → State → Prop} {XC : String → State → State → Prop} {mc ms : Nat} {free : Addr → Prop} {cc : ByteArray} {maxL : Nat} {ret : Option FieldType} {hh : List (Nat × Nat × Nat × Nat)}
    (hy : plainName y.cls = true) (hw : ws = Cond.codeWith y cc maxL ret hh :: ws')
    (body : ∀ p e s m args below meth c s₁, BodyLoose p l y (headSpec ws rm) cc maxL ret e s m args below meth c s₁ → c.maxLocals = maxL → Pc args s →
      W p l e (headSpec ws rm).room s m args below meth c s.heap [] 0 0 (vx_MQ below Qc XC args s mc ms free) (entryFrame m args maxL)) : vx_Met l y ws rm Pc Qc XC mc ms free := by
  refine MetFree.of_bodyS (code := cc) (maxLocals := maxL) (ret := ret) hy ?_ ?_
  · intro args s m h hn
    obtain ⟨m9, meth, c, hn9, h1, h2, h3, h4, -, h5, h6, -⟩ := Cond.codeWith_spec (atoms_spec (ws := ws) h _ (by rw [hw]; exact List.mem_cons_self))
    cases hn.symm.trans hn9
    exact ⟨meth, c, h1, h2, h3, h4, h5, h6⟩
  · intro p e s m args below meth c s₁ B hml hP _
    have hh0 : s₁.heap = s.heap := by rw [B.state]; rfl
    obtain ⟨t, a1, o, b1, b2, b3⟩ := body p e s m args below meth c s₁ B hml hP s₁ hh0 (Stand.of_body B)
    exact ⟨t, o, a1, b1, b2, b3⟩
/-! ===== END ===== -/

/-! ===== BEGIN printed: names, fields, word lists, decode rows ===== -/
def RX0 : String := "FollowingRefs$Image"
def TX0 : u_T := fun k => match k with
  | 0 => ("FollowingRefs$Image", "kept", "Z", false)
  | 1 => ("FollowingRefs$Image", "plan", "LFollowingRefs$Schema;", true)
  | 2 => ("FollowingRefs$Image", "state", "LFollowingRefs$State;", true)
  | _ => ("FollowingRefs$Image", "sentence", "LFollowingRefs$Sentence;", true)
def tyX0 : Nat → FieldType := fun k => match k with
  | 0 => .boolean
  | 1 => .object "FollowingRefs$Schema"
  | 2 => .object "FollowingRefs$State"
  | _ => .object "FollowingRefs$Sentence"
abbrev wsX00 : List Cond := u_ws RX0 TX0 4
theorem nmX0 : ∀ a, a < 4 → ∀ b, b < 4 → a ≠ b → (TX0 a).2.1 ≠ (TX0 b).2.1 := by decide +kernel
theorem tyX0_ok : ∀ k, k < 4 → parseFieldDescriptor (TX0 k).2.2.1 = some (tyX0 k) := by decide +kernel
abbrev cX0_init : ByteArray := prog_2_method_1_code
def yX0_init : MethodName := ⟨RX0, "<init>", "()V"⟩
def RX1 : String := "FollowingRefs$Judge"
def TX1 : u_T := fun k => match k with
  | 0 => ("FollowingRefs$Judge", "plan", "LFollowingRefs$Schema;", true)
  | 1 => ("FollowingRefs$Judge", "state", "LFollowingRefs$State;", true)
  | 2 => ("FollowingRefs$Judge", "then", "LFollowingRefs$Rows;", true)
  | 3 => ("FollowingRefs$Judge", "violations", "LFollowingRefs$Violations;", true)
  | 4 => ("FollowingRefs$Judge", "any", "Z", false)
  | 5 => ("FollowingRefs$Judge", "why", "I", false)
  | 6 => ("FollowingRefs$Judge", "found", "I", false)
  | 7 => ("FollowingRefs$Judge", "going", "I", false)
  | 8 => ("FollowingRefs$Judge", "changed", "I", false)
  | 9 => ("FollowingRefs$Judge", "touched", "I", false)
  | 10 => ("FollowingRefs$Judge", "moved", "Z", false)
  | 11 => ("FollowingRefs$Judge", "goers", "[I", true)
  | 12 => ("FollowingRefs$Judge", "goerSteps", "[I", true)
  | 13 => ("FollowingRefs$Judge", "stepsOf", "[I", true)
  | 14 => ("FollowingRefs$Judge", "aims", "[I", true)
  | 15 => ("FollowingRefs$Judge", "asked", "[I", true)
  | _ => ("FollowingRefs$Judge", "wanted", "[I", true)
def tyX1 : Nat → FieldType := fun k => match k with
  | 0 => .object "FollowingRefs$Schema"
  | 1 => .object "FollowingRefs$State"
  | 2 => .object "FollowingRefs$Rows"
  | 3 => .object "FollowingRefs$Violations"
  | 4 => .boolean
  | 5 => .int
  | 6 => .int
  | 7 => .int
  | 8 => .int
  | 9 => .int
  | 10 => .boolean
  | 11 => .array .int
  | 12 => .array .int
  | 13 => .array .int
  | 14 => .array .int
  | 15 => .array .int
  | _ => .array .int
abbrev wsX10 : List Cond := u_ws RX1 TX1 17
theorem nmX1 : ∀ a, a < 17 → ∀ b, b < 17 → a ≠ b → (TX1 a).2.1 ≠ (TX1 b).2.1 := by decide +kernel
theorem tyX1_ok : ∀ k, k < 17 → parseFieldDescriptor (TX1 k).2.2.1 = some (tyX1 k) := by decide +kernel
abbrev cX1_init : ByteArray := prog_3_method_1_code
def yX1_init : MethodName := ⟨RX1, "<init>", "(LFollowingRefs$Schema;LFollowingRefs$State;)V"⟩
abbrev cX1_judge : ByteArray := prog_3_method_2_code
def yX1_judge : MethodName := ⟨RX1, "judge", "(LFollowingRefs$Lines;I)I"⟩
abbrev cX1_reset : ByteArray := prog_3_method_3_code
def yX1_reset : MethodName := ⟨RX1, "reset", "()V"⟩
abbrev cX1_insert : ByteArray := prog_3_method_4_code
def yX1_insert : MethodName := ⟨RX1, "insert", "(LFollowingRefs$Lines;I)Z"⟩
abbrev cX1_findAims : ByteArray := prog_3_method_5_code
def yX1_findAims : MethodName := ⟨RX1, "findAims", "()V"⟩
abbrev cX1_findRows : ByteArray := prog_3_method_6_code
def yX1_findRows : MethodName := ⟨RX1, "findRows", "(LFollowingRefs$Lines;I)V"⟩
abbrev cX1_spreadGoing : ByteArray := prog_3_method_7_code
def yX1_spreadGoing : MethodName := ⟨RX1, "spreadGoing", "()V"⟩
abbrev cX1_followsGoer : ByteArray := prog_3_method_8_code
def yX1_followsGoer : MethodName := ⟨RX1, "followsGoer", "(II)Z"⟩
abbrev cX1_listGoing : ByteArray := prog_3_method_9_code
def yX1_listGoing : MethodName := ⟨RX1, "listGoing", "()V"⟩
abbrev cX1_spreadValues : ByteArray := prog_3_method_10_code
def yX1_spreadValues : MethodName := ⟨RX1, "spreadValues", "()Z"⟩
abbrev cX1_adapt : ByteArray := prog_3_method_11_code
def yX1_adapt : MethodName := ⟨RX1, "adapt", "(II)Z"⟩
abbrev cX1_becomesAnother : ByteArray := prog_3_method_12_code
def yX1_becomesAnother : MethodName := ⟨RX1, "becomesAnother", "(II)Z"⟩
abbrev cX1_wantedOf : ByteArray := prog_3_method_13_code
def yX1_wantedOf : MethodName := ⟨RX1, "wantedOf", "(II)I"⟩
abbrev cX1_wish : ByteArray := prog_3_method_14_code
def yX1_wish : MethodName := ⟨RX1, "wish", "(III)Z"⟩
abbrev cX1_build : ByteArray := prog_3_method_15_code
def yX1_build : MethodName := ⟨RX1, "build", "()V"⟩
abbrev cX1_changeRow : ByteArray := prog_3_method_16_code
def yX1_changeRow : MethodName := ⟨RX1, "changeRow", "(I)Z"⟩
def RX2 : String := "FollowingRefs$Lines"
def TX2 : u_T := fun k => match k with
  | 0 => ("FollowingRefs$Lines", "text", "LFollowingRefs$Text;", true)
  | 1 => ("FollowingRefs$Lines", "plan", "LFollowingRefs$Schema;", true)
  | 2 => ("FollowingRefs$Lines", "count", "I", false)
  | _ => ("FollowingRefs$Lines", "parts", "[I", true)
def tyX2 : Nat → FieldType := fun k => match k with
  | 0 => .object "FollowingRefs$Text"
  | 1 => .object "FollowingRefs$Schema"
  | 2 => .int
  | _ => .array .int
abbrev wsX20 : List Cond := u_ws RX2 TX2 4
theorem nmX2 : ∀ a, a < 4 → ∀ b, b < 4 → a ≠ b → (TX2 a).2.1 ≠ (TX2 b).2.1 := by decide +kernel
theorem tyX2_ok : ∀ k, k < 4 → parseFieldDescriptor (TX2 k).2.2.1 = some (tyX2 k) := by decide +kernel
abbrev cX2_init : ByteArray := prog_4_method_1_code
def yX2_init : MethodName := ⟨RX2, "<init>", "(LFollowingRefs$Text;LFollowingRefs$Schema;)V"⟩
abbrev cX2_part : ByteArray := prog_4_method_2_code
def yX2_part : MethodName := ⟨RX2, "part", "(II)I"⟩
abbrev cX2_setPart : ByteArray := prog_4_method_3_code
def yX2_setPart : MethodName := ⟨RX2, "setPart", "(III)V"⟩
abbrev cX2_startLine : ByteArray := prog_4_method_4_code
def yX2_startLine : MethodName := ⟨RX2, "startLine", "(III)V"⟩
abbrev cX2_addCond : ByteArray := prog_4_method_5_code
def yX2_addCond : MethodName := ⟨RX2, "addCond", "(IIII)V"⟩
abbrev cX2_readStatement : ByteArray := prog_4_method_6_code
def yX2_readStatement : MethodName := ⟨RX2, "readStatement", "()Z"⟩
abbrev cX2_readBook : ByteArray := prog_4_method_7_code
def yX2_readBook : MethodName := ⟨RX2, "readBook", "()Z"⟩
abbrev cX2_startsStatement : ByteArray := prog_4_method_8_code
def yX2_startsStatement : MethodName := ⟨RX2, "startsStatement", "(I)Z"⟩
abbrev cX2_readLine : ByteArray := prog_4_method_9_code
def yX2_readLine : MethodName := ⟨RX2, "readLine", "(I)Z"⟩
abbrev cX2_readValues : ByteArray := prog_4_method_10_code
def yX2_readValues : MethodName := ⟨RX2, "readValues", "(II)Z"⟩
abbrev cX2_readSets : ByteArray := prog_4_method_11_code
def yX2_readSets : MethodName := ⟨RX2, "readSets", "(II)Z"⟩
abbrev cX2_readConds : ByteArray := prog_4_method_12_code
def yX2_readConds : MethodName := ⟨RX2, "readConds", "(II)Z"⟩
abbrev cX2_finds : ByteArray := prog_4_method_13_code
def yX2_finds : MethodName := ⟨RX2, "finds", "(ILFollowingRefs$Rows;I)Z"⟩
def RX3 : String := "FollowingRefs$Rows"
def TX3 : u_T := fun k => match k with
  | 0 => ("FollowingRefs$Rows", "n", "I", false)
  | 1 => ("FollowingRefs$Rows", "made", "I", false)
  | 2 => ("FollowingRefs$Rows", "numbers", "[I", true)
  | 3 => ("FollowingRefs$Rows", "owners", "[I", true)
  | _ => ("FollowingRefs$Rows", "values", "[I", true)
def tyX3 : Nat → FieldType := fun k => match k with
  | 0 => .int
  | 1 => .int
  | 2 => .array .int
  | 3 => .array .int
  | _ => .array .int
abbrev wsX30 : List Cond := u_ws RX3 TX3 5
theorem nmX3 : ∀ a, a < 5 → ∀ b, b < 5 → a ≠ b → (TX3 a).2.1 ≠ (TX3 b).2.1 := by decide +kernel
theorem tyX3_ok : ∀ k, k < 5 → parseFieldDescriptor (TX3 k).2.2.1 = some (tyX3 k) := by decide +kernel
abbrev cX3_init : ByteArray := prog_5_method_1_code
def yX3_init : MethodName := ⟨RX3, "<init>", "()V"⟩
abbrev cX3_reset : ByteArray := prog_5_method_2_code
def yX3_reset : MethodName := ⟨RX3, "reset", "()V"⟩
abbrev cX3_copyFrom : ByteArray := prog_5_method_3_code
def yX3_copyFrom : MethodName := ⟨RX3, "copyFrom", "(LFollowingRefs$Rows;)V"⟩
abbrev cX3_hasRoom : ByteArray := prog_5_method_4_code
def yX3_hasRoom : MethodName := ⟨RX3, "hasRoom", "()Z"⟩
abbrev cX3_add : ByteArray := prog_5_method_5_code
def yX3_add : MethodName := ⟨RX3, "add", "(ILFollowingRefs$Lines;I)V"⟩
abbrev cX3_keepOnly : ByteArray := prog_5_method_6_code
def yX3_keepOnly : MethodName := ⟨RX3, "keepOnly", "([I)V"⟩
abbrev cX3_slotOf : ByteArray := prog_5_method_7_code
def yX3_slotOf : MethodName := ⟨RX3, "slotOf", "(I)I"⟩
abbrev cX3_tableAt : ByteArray := prog_5_method_8_code
def yX3_tableAt : MethodName := ⟨RX3, "tableAt", "(I)I"⟩
abbrev cX3_numberAt : ByteArray := prog_5_method_9_code
def yX3_numberAt : MethodName := ⟨RX3, "numberAt", "(I)I"⟩
abbrev cX3_value : ByteArray := prog_5_method_10_code
def yX3_value : MethodName := ⟨RX3, "value", "(II)I"⟩
abbrev cX3_setValue : ByteArray := prog_5_method_11_code
def yX3_setValue : MethodName := ⟨RX3, "setValue", "(III)V"⟩
abbrev cX3_countOf : ByteArray := prog_5_method_12_code
def yX3_countOf : MethodName := ⟨RX3, "countOf", "(I)I"⟩
abbrev cX3_numberOf : ByteArray := prog_5_method_13_code
def yX3_numberOf : MethodName := ⟨RX3, "numberOf", "(II)I"⟩
abbrev cX3_countIn : ByteArray := prog_5_method_14_code
def yX3_countIn : MethodName := ⟨RX3, "countIn", "(II)I"⟩
abbrev cX3_sumIn : ByteArray := prog_5_method_15_code
def yX3_sumIn : MethodName := ⟨RX3, "sumIn", "(II)I"⟩
abbrev cX3_aim : ByteArray := prog_5_method_16_code
def yX3_aim : MethodName := ⟨RX3, "aim", "(LFollowingRefs$Schema;II)I"⟩
abbrev cX3_referring : ByteArray := prog_5_method_17_code
def yX3_referring : MethodName := ⟨RX3, "referring", "(LFollowingRefs$Schema;I)I"⟩
def RX4 : String := "FollowingRefs$Schema"
def TX4 : u_T := fun k => match k with
  | 0 => ("FollowingRefs$Schema", "tables", "I", false)
  | 1 => ("FollowingRefs$Schema", "keys", "I", false)
  | 2 => ("FollowingRefs$Schema", "refs", "I", false)
  | 3 => ("FollowingRefs$Schema", "checks", "I", false)
  | 4 => ("FollowingRefs$Schema", "names", "[J", true)
  | 5 => ("FollowingRefs$Schema", "widths", "[I", true)
  | 6 => ("FollowingRefs$Schema", "colNames", "[J", true)
  | 7 => ("FollowingRefs$Schema", "defaults", "[I", true)
  | 8 => ("FollowingRefs$Schema", "needs", "[I", true)
  | 9 => ("FollowingRefs$Schema", "keyParts", "[I", true)
  | 10 => ("FollowingRefs$Schema", "refParts", "[I", true)
  | _ => ("FollowingRefs$Schema", "checkParts", "[I", true)
def tyX4 : Nat → FieldType := fun k => match k with
  | 0 => .int
  | 1 => .int
  | 2 => .int
  | 3 => .int
  | 4 => .array .long
  | 5 => .array .int
  | 6 => .array .long
  | 7 => .array .int
  | 8 => .array .int
  | 9 => .array .int
  | 10 => .array .int
  | _ => .array .int
abbrev wsX40 : List Cond := u_ws RX4 TX4 12
theorem nmX4 : ∀ a, a < 12 → ∀ b, b < 12 → a ≠ b → (TX4 a).2.1 ≠ (TX4 b).2.1 := by decide +kernel
theorem tyX4_ok : ∀ k, k < 12 → parseFieldDescriptor (TX4 k).2.2.1 = some (tyX4 k) := by decide +kernel
abbrev cX4_init : ByteArray := prog_6_method_1_code
def yX4_init : MethodName := ⟨RX4, "<init>", "()V"⟩
abbrev cX4_reset : ByteArray := prog_6_method_2_code
def yX4_reset : MethodName := ⟨RX4, "reset", "()V"⟩
abbrev cX4_copyFrom : ByteArray := prog_6_method_3_code
def yX4_copyFrom : MethodName := ⟨RX4, "copyFrom", "(LFollowingRefs$Schema;)V"⟩
abbrev cX4_addTable : ByteArray := prog_6_method_4_code
def yX4_addTable : MethodName := ⟨RX4, "addTable", "(J)V"⟩
abbrev cX4_addCol : ByteArray := prog_6_method_5_code
def yX4_addCol : MethodName := ⟨RX4, "addCol", "(IJ)V"⟩
abbrev cX4_addKey : ByteArray := prog_6_method_6_code
def yX4_addKey : MethodName := ⟨RX4, "addKey", "(III)V"⟩
abbrev cX4_name : ByteArray := prog_6_method_7_code
def yX4_name : MethodName := ⟨RX4, "name", "(I)J"⟩
abbrev cX4_width : ByteArray := prog_6_method_8_code
def yX4_width : MethodName := ⟨RX4, "width", "(I)I"⟩
abbrev cX4_has : ByteArray := prog_6_method_9_code
def yX4_has : MethodName := ⟨RX4, "has", "(II)Z"⟩
abbrev cX4_tableNamed : ByteArray := prog_6_method_10_code
def yX4_tableNamed : MethodName := ⟨RX4, "tableNamed", "(J)I"⟩
abbrev cX4_colNamed : ByteArray := prog_6_method_11_code
def yX4_colNamed : MethodName := ⟨RX4, "colNamed", "(IJ)I"⟩
abbrev cX4_defaultOf : ByteArray := prog_6_method_12_code
def yX4_defaultOf : MethodName := ⟨RX4, "defaultOf", "(II)I"⟩
abbrev cX4_needTold : ByteArray := prog_6_method_13_code
def yX4_needTold : MethodName := ⟨RX4, "needTold", "(II)Z"⟩
abbrev cX4_needed : ByteArray := prog_6_method_14_code
def yX4_needed : MethodName := ⟨RX4, "needed", "(II)Z"⟩
abbrev cX4_keyPart : ByteArray := prog_6_method_15_code
def yX4_keyPart : MethodName := ⟨RX4, "keyPart", "(II)I"⟩
abbrev cX4_refPart : ByteArray := prog_6_method_16_code
def yX4_refPart : MethodName := ⟨RX4, "refPart", "(II)I"⟩
abbrev cX4_checkPart : ByteArray := prog_6_method_17_code
def yX4_checkPart : MethodName := ⟨RX4, "checkPart", "(II)I"⟩
abbrev cX4_keyAlike : ByteArray := prog_6_method_18_code
def yX4_keyAlike : MethodName := ⟨RX4, "keyAlike", "(III)I"⟩
abbrev cX4_keysOf : ByteArray := prog_6_method_19_code
def yX4_keysOf : MethodName := ⟨RX4, "keysOf", "(I)I"⟩
abbrev cX4_keysWith : ByteArray := prog_6_method_20_code
def yX4_keysWith : MethodName := ⟨RX4, "keysWith", "(II)I"⟩
abbrev cX4_refsWith : ByteArray := prog_6_method_21_code
def yX4_refsWith : MethodName := ⟨RX4, "refsWith", "(II)I"⟩
abbrev cX4_refsBy : ByteArray := prog_6_method_22_code
def yX4_refsBy : MethodName := ⟨RX4, "refsBy", "(II)I"⟩
abbrev cX4_perils : ByteArray := prog_6_method_23_code
def yX4_perils : MethodName := ⟨RX4, "perils", "(I)I"⟩
abbrev cX4_packedOrder : ByteArray := prog_6_method_24_code
def yX4_packedOrder : MethodName := ⟨RX4, "packedOrder", "()I"⟩
abbrev cX4_othersOf : ByteArray := prog_6_method_25_code
def yX4_othersOf : MethodName := ⟨RX4, "othersOf", "(I)I"⟩
def RX5 : String := "FollowingRefs$SchemaReader"
def TX5 : u_T := fun k => match k with
  | 0 => ("FollowingRefs$SchemaReader", "text", "LFollowingRefs$Text;", true)
  | 1 => ("FollowingRefs$SchemaReader", "draft", "LFollowingRefs$Schema;", true)
  | 2 => ("FollowingRefs$SchemaReader", "lineCount", "I", false)
  | 3 => ("FollowingRefs$SchemaReader", "owner", "I", false)
  | 4 => ("FollowingRefs$SchemaReader", "first", "I", false)
  | _ => ("FollowingRefs$SchemaReader", "second", "I", false)
def tyX5 : Nat → FieldType := fun k => match k with
  | 0 => .object "FollowingRefs$Text"
  | 1 => .object "FollowingRefs$Schema"
  | 2 => .int
  | 3 => .int
  | 4 => .int
  | _ => .int
abbrev wsX50 : List Cond := u_ws RX5 TX5 6
theorem nmX5 : ∀ a, a < 6 → ∀ b, b < 6 → a ≠ b → (TX5 a).2.1 ≠ (TX5 b).2.1 := by decide +kernel
theorem tyX5_ok : ∀ k, k < 6 → parseFieldDescriptor (TX5 k).2.2.1 = some (tyX5 k) := by decide +kernel
abbrev cX5_init : ByteArray := prog_7_method_1_code
def yX5_init : MethodName := ⟨RX5, "<init>", "(LFollowingRefs$Text;)V"⟩
abbrev cX5_readSchema : ByteArray := prog_7_method_2_code
def yX5_readSchema : MethodName := ⟨RX5, "readSchema", "()Z"⟩
abbrev cX5_isFull : ByteArray := prog_7_method_3_code
def yX5_isFull : MethodName := ⟨RX5, "isFull", "(I)Z"⟩
abbrev cX5_readTable : ByteArray := prog_7_method_4_code
def yX5_readTable : MethodName := ⟨RX5, "readTable", "()Z"⟩
abbrev cX5_takeCols : ByteArray := prog_7_method_5_code
def yX5_takeCols : MethodName := ⟨RX5, "takeCols", "()Z"⟩
abbrev cX5_readKey : ByteArray := prog_7_method_6_code
def yX5_readKey : MethodName := ⟨RX5, "readKey", "()Z"⟩
abbrev cX5_readRef : ByteArray := prog_7_method_7_code
def yX5_readRef : MethodName := ⟨RX5, "readRef", "()Z"⟩
abbrev cX5_takeKey : ByteArray := prog_7_method_8_code
def yX5_takeKey : MethodName := ⟨RX5, "takeKey", "(IZ)I"⟩
abbrev cX5_takeOn : ByteArray := prog_7_method_9_code
def yX5_takeOn : MethodName := ⟨RX5, "takeOn", "()I"⟩
abbrev cX5_readDefault : ByteArray := prog_7_method_10_code
def yX5_readDefault : MethodName := ⟨RX5, "readDefault", "()Z"⟩
abbrev cX5_readNeed : ByteArray := prog_7_method_11_code
def yX5_readNeed : MethodName := ⟨RX5, "readNeed", "()Z"⟩
abbrev cX5_readCheck : ByteArray := prog_7_method_12_code
def yX5_readCheck : MethodName := ⟨RX5, "readCheck", "()Z"⟩
def RX6 : String := "FollowingRefs$Sentence"
def TX6 : u_T := fun k => match k with
  | 0 => ("FollowingRefs$Sentence", "there", "Z", false)
  | 1 => ("FollowingRefs$Sentence", "ones", "I", false)
  | 2 => ("FollowingRefs$Sentence", "acts", "I", false)
  | _ => ("FollowingRefs$Sentence", "parts", "[I", true)
def tyX6 : Nat → FieldType := fun k => match k with
  | 0 => .boolean
  | 1 => .int
  | 2 => .int
  | _ => .array .int
abbrev wsX60 : List Cond := u_ws RX6 TX6 4
theorem nmX6 : ∀ a, a < 4 → ∀ b, b < 4 → a ≠ b → (TX6 a).2.1 ≠ (TX6 b).2.1 := by decide +kernel
theorem tyX6_ok : ∀ k, k < 4 → parseFieldDescriptor (TX6 k).2.2.1 = some (tyX6 k) := by decide +kernel
abbrev cX6_init : ByteArray := prog_8_method_1_code
def yX6_init : MethodName := ⟨RX6, "<init>", "()V"⟩
abbrev cX6_reset : ByteArray := prog_8_method_2_code
def yX6_reset : MethodName := ⟨RX6, "reset", "()V"⟩
abbrev cX6_copyFrom : ByteArray := prog_8_method_3_code
def yX6_copyFrom : MethodName := ⟨RX6, "copyFrom", "(LFollowingRefs$Sentence;)V"⟩
abbrev cX6_add : ByteArray := prog_8_method_4_code
def yX6_add : MethodName := ⟨RX6, "add", "(III)V"⟩
abbrev cX6_holds : ByteArray := prog_8_method_5_code
def yX6_holds : MethodName := ⟨RX6, "holds", "(LFollowingRefs$Schema;LFollowingRefs$Rows;ILFollowingRefs$Violations;)Z"⟩
abbrev cX6_holdsOne : ByteArray := prog_8_method_6_code
def yX6_holdsOne : MethodName := ⟨RX6, "holdsOne", "(LFollowingRefs$Schema;LFollowingRefs$Rows;ILFollowingRefs$Violations;I)Z"⟩
abbrev cX6_isBare : ByteArray := prog_8_method_7_code
def yX6_isBare : MethodName := ⟨RX6, "isBare", "(LFollowingRefs$Schema;LFollowingRefs$Rows;I)Z"⟩
abbrev cX6_colsNamed : ByteArray := prog_8_method_8_code
def yX6_colsNamed : MethodName := ⟨RX6, "colsNamed", "(LFollowingRefs$Schema;J)I"⟩
abbrev cX6_colOf : ByteArray := prog_8_method_9_code
def yX6_colOf : MethodName := ⟨RX6, "colOf", "(II)I"⟩
def RX7 : String := "FollowingRefs$SentenceReader"
def TX7 : u_T := fun k => match k with
  | 0 => ("FollowingRefs$SentenceReader", "text", "LFollowingRefs$Text;", true)
  | 1 => ("FollowingRefs$SentenceReader", "plan", "LFollowingRefs$Schema;", true)
  | _ => ("FollowingRefs$SentenceReader", "draft", "LFollowingRefs$Sentence;", true)
def tyX7 : Nat → FieldType := fun k => match k with
  | 0 => .object "FollowingRefs$Text"
  | 1 => .object "FollowingRefs$Schema"
  | _ => .object "FollowingRefs$Sentence"
abbrev wsX70 : List Cond := u_ws RX7 TX7 3
theorem nmX7 : ∀ a, a < 3 → ∀ b, b < 3 → a ≠ b → (TX7 a).2.1 ≠ (TX7 b).2.1 := by decide +kernel
theorem tyX7_ok : ∀ k, k < 3 → parseFieldDescriptor (TX7 k).2.2.1 = some (tyX7 k) := by decide +kernel
abbrev cX7_init : ByteArray := prog_9_method_1_code
def yX7_init : MethodName := ⟨RX7, "<init>", "(LFollowingRefs$Text;LFollowingRefs$Schema;)V"⟩
abbrev cX7_readSentence : ByteArray := prog_9_method_2_code
def yX7_readSentence : MethodName := ⟨RX7, "readSentence", "()Z"⟩
abbrev cX7_readCond : ByteArray := prog_9_method_3_code
def yX7_readCond : MethodName := ⟨RX7, "readCond", "(I)Z"⟩
abbrev cX7_readAll : ByteArray := prog_9_method_4_code
def yX7_readAll : MethodName := ⟨RX7, "readAll", "(I)Z"⟩
abbrev cX7_readOne : ByteArray := prog_9_method_5_code
def yX7_readOne : MethodName := ⟨RX7, "readOne", "(I)Z"⟩
abbrev cX7_startsOne : ByteArray := prog_9_method_6_code
def yX7_startsOne : MethodName := ⟨RX7, "startsOne", "(I)Z"⟩
abbrev cX7_readComparison : ByteArray := prog_9_method_7_code
def yX7_readComparison : MethodName := ⟨RX7, "readComparison", "(I)Z"⟩
def RX8 : String := "FollowingRefs$State"
def TX8 : u_T := fun k => match k with
  | 0 => ("FollowingRefs$State", "current", "LFollowingRefs$Rows;", true)
  | 1 => ("FollowingRefs$State", "begun", "LFollowingRefs$Rows;", true)
  | _ => ("FollowingRefs$State", "on", "Z", false)
def tyX8 : Nat → FieldType := fun k => match k with
  | 0 => .object "FollowingRefs$Rows"
  | 1 => .object "FollowingRefs$Rows"
  | _ => .boolean
abbrev wsX80 : List Cond := u_ws RX8 TX8 3
theorem nmX8 : ∀ a, a < 3 → ∀ b, b < 3 → a ≠ b → (TX8 a).2.1 ≠ (TX8 b).2.1 := by decide +kernel
theorem tyX8_ok : ∀ k, k < 3 → parseFieldDescriptor (TX8 k).2.2.1 = some (tyX8 k) := by decide +kernel
abbrev cX8_init : ByteArray := prog_10_method_1_code
def yX8_init : MethodName := ⟨RX8, "<init>", "()V"⟩
abbrev cX8_reset : ByteArray := prog_10_method_2_code
def yX8_reset : MethodName := ⟨RX8, "reset", "()V"⟩
abbrev cX8_copyFrom : ByteArray := prog_10_method_3_code
def yX8_copyFrom : MethodName := ⟨RX8, "copyFrom", "(LFollowingRefs$State;)V"⟩
abbrev cX8_start : ByteArray := prog_10_method_4_code
def yX8_start : MethodName := ⟨RX8, "start", "()Z"⟩
abbrev cX8_goBack : ByteArray := prog_10_method_5_code
def yX8_goBack : MethodName := ⟨RX8, "goBack", "()Z"⟩
def RX9 : String := "FollowingRefs$Text"
def TX9 : u_T := fun k => match k with
  | 0 => ("FollowingRefs$Text", "bytes", "[B", true)
  | 1 => ("FollowingRefs$Text", "length", "I", false)
  | 2 => ("FollowingRefs$Text", "tokens", "[J", true)
  | 3 => ("FollowingRefs$Text", "tokenCount", "I", false)
  | 4 => ("FollowingRefs$Text", "next", "I", false)
  | 5 => ("FollowingRefs$Text", "kind", "I", false)
  | 6 => ("FollowingRefs$Text", "place", "I", false)
  | 7 => ("FollowingRefs$Text", "held", "J", false)
  | 8 => ("FollowingRefs$Text", "faultKind", "I", false)
  | _ => ("FollowingRefs$Text", "faultPlace", "I", false)
def tyX9 : Nat → FieldType := fun k => match k with
  | 0 => .array .byte
  | 1 => .int
  | 2 => .array .long
  | 3 => .int
  | 4 => .int
  | 5 => .int
  | 6 => .int
  | 7 => .long
  | 8 => .int
  | _ => .int
abbrev wsX90 : List Cond := u_ws RX9 TX9 10
theorem nmX9 : ∀ a, a < 10 → ∀ b, b < 10 → a ≠ b → (TX9 a).2.1 ≠ (TX9 b).2.1 := by decide +kernel
theorem tyX9_ok : ∀ k, k < 10 → parseFieldDescriptor (TX9 k).2.2.1 = some (tyX9 k) := by decide +kernel
abbrev cX9_init : ByteArray := prog_11_method_1_code
def yX9_init : MethodName := ⟨RX9, "<init>", "()V"⟩
abbrev cX9_append : ByteArray := prog_11_method_2_code
def yX9_append : MethodName := ⟨RX9, "append", "(I)V"⟩
abbrev cX9_start : ByteArray := prog_11_method_3_code
def yX9_start : MethodName := ⟨RX9, "start", "(I)V"⟩
abbrev cX9_keepRun : ByteArray := prog_11_method_4_code
def yX9_keepRun : MethodName := ⟨RX9, "keepRun", "(I)I"⟩
abbrev cX9_keep : ByteArray := prog_11_method_5_code
def yX9_keep : MethodName := ⟨RX9, "keep", "(IIJ)V"⟩
abbrev cX9_step : ByteArray := prog_11_method_6_code
def yX9_step : MethodName := ⟨RX9, "step", "()V"⟩
abbrev cX9_byteIn : ByteArray := prog_11_method_7_code
def yX9_byteIn : MethodName := ⟨RX9, "byteIn", "(I)I"⟩
abbrev cX9_kindOfWord : ByteArray := prog_11_method_8_code
def yX9_kindOfWord : MethodName := ⟨RX9, "kindOfWord", "(J)I"⟩
abbrev cX9_isBlank : ByteArray := prog_11_method_9_code
def yX9_isBlank : MethodName := ⟨RX9, "isBlank", "(I)Z"⟩
abbrev cX9_isLetter : ByteArray := prog_11_method_10_code
def yX9_isLetter : MethodName := ⟨RX9, "isLetter", "(I)Z"⟩
abbrev cX9_isDigit : ByteArray := prog_11_method_11_code
def yX9_isDigit : MethodName := ⟨RX9, "isDigit", "(I)Z"⟩
abbrev cX9_isSign : ByteArray := prog_11_method_12_code
def yX9_isSign : MethodName := ⟨RX9, "isSign", "(I)Z"⟩
abbrev cX9_fail : ByteArray := prog_11_method_13_code
def yX9_fail : MethodName := ⟨RX9, "fail", "(I)Z"⟩
abbrev cX9_take : ByteArray := prog_11_method_14_code
def yX9_take : MethodName := ⟨RX9, "take", "(I)Z"⟩
abbrev cX9_option : ByteArray := prog_11_method_15_code
def yX9_option : MethodName := ⟨RX9, "option", "(I)Z"⟩
abbrev cX9_takeComparison : ByteArray := prog_11_method_16_code
def yX9_takeComparison : MethodName := ⟨RX9, "takeComparison", "()I"⟩
abbrev cX9_takeNumber : ByteArray := prog_11_method_17_code
def yX9_takeNumber : MethodName := ⟨RX9, "takeNumber", "()I"⟩
abbrev cX9_takeValue : ByteArray := prog_11_method_18_code
def yX9_takeValue : MethodName := ⟨RX9, "takeValue", "()I"⟩
abbrev cX9_takeTable : ByteArray := prog_11_method_19_code
def yX9_takeTable : MethodName := ⟨RX9, "takeTable", "(LFollowingRefs$Schema;)I"⟩
abbrev cX9_colHere : ByteArray := prog_11_method_20_code
def yX9_colHere : MethodName := ⟨RX9, "colHere", "(LFollowingRefs$Schema;II)I"⟩
abbrev cX9_takeCol : ByteArray := prog_11_method_21_code
def yX9_takeCol : MethodName := ⟨RX9, "takeCol", "(LFollowingRefs$Schema;II)I"⟩
def RX10 : String := "FollowingRefs$Violations"
def TX10 : u_T := fun k => match k with
  | 0 => ("FollowingRefs$Violations", "n", "I", false)
  | _ => ("FollowingRefs$Violations", "packed", "[I", true)
def tyX10 : Nat → FieldType := fun k => match k with
  | 0 => .int
  | _ => .array .int
abbrev wsX100 : List Cond := u_ws RX10 TX10 2
theorem nmX10 : ∀ a, a < 2 → ∀ b, b < 2 → a ≠ b → (TX10 a).2.1 ≠ (TX10 b).2.1 := by decide +kernel
theorem tyX10_ok : ∀ k, k < 2 → parseFieldDescriptor (TX10 k).2.2.1 = some (tyX10 k) := by decide +kernel
abbrev cX10_init : ByteArray := prog_12_method_1_code
def yX10_init : MethodName := ⟨RX10, "<init>", "()V"⟩
abbrev cX10_reset : ByteArray := prog_12_method_2_code
def yX10_reset : MethodName := ⟨RX10, "reset", "()V"⟩
abbrev cX10_scan : ByteArray := prog_12_method_3_code
def yX10_scan : MethodName := ⟨RX10, "scan", "(LFollowingRefs$Schema;LFollowingRefs$Rows;Z)I"⟩
abbrev cX10_add : ByteArray := prog_12_method_4_code
def yX10_add : MethodName := ⟨RX10, "add", "(III)V"⟩
abbrev cX10_addNeeds : ByteArray := prog_12_method_5_code
def yX10_addNeeds : MethodName := ⟨RX10, "addNeeds", "(LFollowingRefs$Rows;II)V"⟩
abbrev cX10_addKeys : ByteArray := prog_12_method_6_code
def yX10_addKeys : MethodName := ⟨RX10, "addKeys", "(LFollowingRefs$Schema;LFollowingRefs$Rows;I)V"⟩
abbrev cX10_isDouble : ByteArray := prog_12_method_7_code
def yX10_isDouble : MethodName := ⟨RX10, "isDouble", "(LFollowingRefs$Rows;III)Z"⟩
abbrev cX10_addRefs : ByteArray := prog_12_method_8_code
def yX10_addRefs : MethodName := ⟨RX10, "addRefs", "(LFollowingRefs$Schema;LFollowingRefs$Rows;I)V"⟩
abbrev cX10_addChecks : ByteArray := prog_12_method_9_code
def yX10_addChecks : MethodName := ⟨RX10, "addChecks", "(LFollowingRefs$Schema;LFollowingRefs$Rows;I)V"⟩
abbrev cX10_tell : ByteArray := prog_12_method_10_code
def yX10_tell : MethodName := ⟨RX10, "tell", "(II)I"⟩
abbrev cX10_tellsOf : ByteArray := prog_12_method_11_code
def yX10_tellsOf : MethodName := ⟨RX10, "tellsOf", "(I)Z"⟩
def RX11 : String := "FollowingRefs"
def TX11 : u_T := fun k => match k with
  | 0 => ("FollowingRefs", "tape", "LFollowingRefs$Text;", true)
  | 1 => ("FollowingRefs", "plan", "LFollowingRefs$Schema;", true)
  | 2 => ("FollowingRefs", "state", "LFollowingRefs$State;", true)
  | 3 => ("FollowingRefs", "sentenceNow", "LFollowingRefs$Sentence;", true)
  | 4 => ("FollowingRefs", "schemaReader", "LFollowingRefs$SchemaReader;", true)
  | 5 => ("FollowingRefs", "sentenceReader", "LFollowingRefs$SentenceReader;", true)
  | 6 => ("FollowingRefs", "lines", "LFollowingRefs$Lines;", true)
  | 7 => ("FollowingRefs", "latest", "LFollowingRefs$Judge;", true)
  | 8 => ("FollowingRefs", "aside", "LFollowingRefs$Judge;", true)
  | 9 => ("FollowingRefs", "earlier", "LFollowingRefs$State;", true)
  | 10 => ("FollowingRefs", "undos", "[LFollowingRefs$State;", true)
  | 11 => ("FollowingRefs", "undoable", "I", false)
  | 12 => ("FollowingRefs", "images", "[LFollowingRefs$Image;", true)
  | 13 => ("FollowingRefs", "bookTold", "[I", true)
  | 14 => ("FollowingRefs", "tagBytes", "[B", true)
  | 15 => ("FollowingRefs", "tagLength", "I", false)
  | 16 => ("FollowingRefs", "orderLength", "I", false)
  | 17 => ("FollowingRefs", "orderPacked", "I", false)
  | _ => ("FollowingRefs", "dice", "I", false)
def tyX11 : Nat → FieldType := fun k => match k with
  | 0 => .object "FollowingRefs$Text"
  | 1 => .object "FollowingRefs$Schema"
  | 2 => .object "FollowingRefs$State"
  | 3 => .object "FollowingRefs$Sentence"
  | 4 => .object "FollowingRefs$SchemaReader"
  | 5 => .object "FollowingRefs$SentenceReader"
  | 6 => .object "FollowingRefs$Lines"
  | 7 => .object "FollowingRefs$Judge"
  | 8 => .object "FollowingRefs$Judge"
  | 9 => .object "FollowingRefs$State"
  | 10 => .array (.object "FollowingRefs$State")
  | 11 => .int
  | 12 => .array (.object "FollowingRefs$Image")
  | 13 => .array .int
  | 14 => .array .byte
  | 15 => .int
  | 16 => .int
  | 17 => .int
  | _ => .int
abbrev wsX110 : List Cond := u_ws RX11 TX11 19
theorem nmX11 : ∀ a, a < 19 → ∀ b, b < 19 → a ≠ b → (TX11 a).2.1 ≠ (TX11 b).2.1 := by decide +kernel
theorem tyX11_ok : ∀ k, k < 19 → parseFieldDescriptor (TX11 k).2.2.1 = some (tyX11 k) := by decide +kernel
abbrev cX11_init : ByteArray := prog_1_method_1_code
def yX11_init : MethodName := ⟨RX11, "<init>", "()V"⟩
abbrev cX11_feed : ByteArray := prog_1_method_2_code
def yX11_feed : MethodName := ⟨RX11, "feed", "(IIIII)I"⟩
abbrev cX11_end : ByteArray := prog_1_method_3_code
def yX11_end : MethodName := ⟨RX11, "end", "(I)Z"⟩
abbrev cX11_schema : ByteArray := prog_1_method_4_code
def yX11_schema : MethodName := ⟨RX11, "schema", "()I"⟩
abbrev cX11_fault : ByteArray := prog_1_method_5_code
def yX11_fault : MethodName := ⟨RX11, "fault", "()I"⟩
abbrev cX11_statement : ByteArray := prog_1_method_6_code
def yX11_statement : MethodName := ⟨RX11, "statement", "()I"⟩
abbrev cX11_would : ByteArray := prog_1_method_7_code
def yX11_would : MethodName := ⟨RX11, "would", "()I"⟩
abbrev cX11_decide : ByteArray := prog_1_method_8_code
def yX11_decide : MethodName := ⟨RX11, "decide", "(Z)I"⟩
abbrev cX11_judged : ByteArray := prog_1_method_9_code
def yX11_judged : MethodName := ⟨RX11, "judged", "(I)I"⟩
abbrev cX11_goes : ByteArray := prog_1_method_10_code
def yX11_goes : MethodName := ⟨RX11, "goes", "(I)I"⟩
abbrev cX11_steps : ByteArray := prog_1_method_11_code
def yX11_steps : MethodName := ⟨RX11, "steps", "(I)I"⟩
abbrev cX11_violated : ByteArray := prog_1_method_12_code
def yX11_violated : MethodName := ⟨RX11, "violated", "(II)I"⟩
abbrev cX11_begin : ByteArray := prog_1_method_13_code
def yX11_begin : MethodName := ⟨RX11, "begin", "()I"⟩
abbrev cX11_commit : ByteArray := prog_1_method_14_code
def yX11_commit : MethodName := ⟨RX11, "commit", "()I"⟩
abbrev cX11_back : ByteArray := prog_1_method_15_code
def yX11_back : MethodName := ⟨RX11, "back", "()I"⟩
abbrev cX11_undo : ByteArray := prog_1_method_16_code
def yX11_undo : MethodName := ⟨RX11, "undo", "()I"⟩
abbrev cX11_keepForUndo : ByteArray := prog_1_method_17_code
def yX11_keepForUndo : MethodName := ⟨RX11, "keepForUndo", "(LFollowingRefs$State;)V"⟩
abbrev cX11_forgetOldest : ByteArray := prog_1_method_18_code
def yX11_forgetOldest : MethodName := ⟨RX11, "forgetOldest", "()V"⟩
abbrev cX11_now : ByteArray := prog_1_method_19_code
def yX11_now : MethodName := ⟨RX11, "now", "(I)I"⟩
abbrev cX11_rows : ByteArray := prog_1_method_20_code
def yX11_rows : MethodName := ⟨RX11, "rows", "(I)I"⟩
abbrev cX11_row : ByteArray := prog_1_method_21_code
def yX11_row : MethodName := ⟨RX11, "row", "(II)I"⟩
abbrev cX11_tableOf : ByteArray := prog_1_method_22_code
def yX11_tableOf : MethodName := ⟨RX11, "tableOf", "(I)I"⟩
abbrev cX11_cell : ByteArray := prog_1_method_23_code
def yX11_cell : MethodName := ⟨RX11, "cell", "(II)I"⟩
abbrev cX11_refers : ByteArray := prog_1_method_24_code
def yX11_refers : MethodName := ⟨RX11, "refers", "(II)I"⟩
abbrev cX11_referred : ByteArray := prog_1_method_25_code
def yX11_referred : MethodName := ⟨RX11, "referred", "(I)I"⟩
abbrev cX11_table : ByteArray := prog_1_method_26_code
def yX11_table : MethodName := ⟨RX11, "table", "(II)I"⟩
abbrev cX11_col : ByteArray := prog_1_method_27_code
def yX11_col : MethodName := ⟨RX11, "col", "(III)I"⟩
abbrev cX11_ref : ByteArray := prog_1_method_28_code
def yX11_ref : MethodName := ⟨RX11, "ref", "(II)I"⟩
abbrev cX11_order : ByteArray := prog_1_method_29_code
def yX11_order : MethodName := ⟨RX11, "order", "()I"⟩
abbrev cX11_orderAt : ByteArray := prog_1_method_30_code
def yX11_orderAt : MethodName := ⟨RX11, "orderAt", "(I)I"⟩
abbrev cX11_mean : ByteArray := prog_1_method_31_code
def yX11_mean : MethodName := ⟨RX11, "mean", "(III)I"⟩
abbrev cX11_tag : ByteArray := prog_1_method_32_code
def yX11_tag : MethodName := ⟨RX11, "tag", "(I)I"⟩
abbrev cX11_writeByte : ByteArray := prog_1_method_33_code
def yX11_writeByte : MethodName := ⟨RX11, "writeByte", "(I)V"⟩
abbrev cX11_writeNumber : ByteArray := prog_1_method_34_code
def yX11_writeNumber : MethodName := ⟨RX11, "writeNumber", "(I)V"⟩
abbrev cX11_writeWord : ByteArray := prog_1_method_35_code
def yX11_writeWord : MethodName := ⟨RX11, "writeWord", "(J)V"⟩
abbrev cX11_byteAt : ByteArray := prog_1_method_36_code
def yX11_byteAt : MethodName := ⟨RX11, "byteAt", "(I)I"⟩
abbrev cX11_drawn : ByteArray := prog_1_method_37_code
def yX11_drawn : MethodName := ⟨RX11, "drawn", "(II)I"⟩
abbrev cX11_drawLine : ByteArray := prog_1_method_38_code
def yX11_drawLine : MethodName := ⟨RX11, "drawLine", "()V"⟩
abbrev cX11_draw : ByteArray := prog_1_method_39_code
def yX11_draw : MethodName := ⟨RX11, "draw", "(I)I"⟩
abbrev cX11_book : ByteArray := prog_1_method_40_code
def yX11_book : MethodName := ⟨RX11, "book", "(I)I"⟩
abbrev cX11_runLine : ByteArray := prog_1_method_41_code
def yX11_runLine : MethodName := ⟨RX11, "runLine", "(I)I"⟩
abbrev cX11_told : ByteArray := prog_1_method_42_code
def yX11_told : MethodName := ⟨RX11, "told", "(I)I"⟩
abbrev cX11_sentence : ByteArray := prog_1_method_43_code
def yX11_sentence : MethodName := ⟨RX11, "sentence", "()I"⟩
abbrev cX11_said : ByteArray := prog_1_method_44_code
def yX11_said : MethodName := ⟨RX11, "said", "(I)I"⟩
abbrev cX11_image : ByteArray := prog_1_method_45_code
def yX11_image : MethodName := ⟨RX11, "image", "(I)Z"⟩
abbrev cX11_restore : ByteArray := prog_1_method_46_code
def yX11_restore : MethodName := ⟨RX11, "restore", "(I)Z"⟩
abbrev cX11_imageIn : ByteArray := prog_1_method_47_code
def yX11_imageIn : MethodName := ⟨RX11, "imageIn", "(I)LFollowingRefs$Image;"⟩
abbrev cX11_count : ByteArray := prog_1_method_48_code
def yX11_count : MethodName := ⟨RX11, "count", "(I)I"⟩
abbrev cX11_at : ByteArray := prog_1_method_49_code
def yX11_at : MethodName := ⟨RX11, "at", "([II)I"⟩
abbrev cX11_put : ByteArray := prog_1_method_50_code
def yX11_put : MethodName := ⟨RX11, "put", "([III)V"⟩
abbrev cX11_copy : ByteArray := prog_1_method_51_code
def yX11_copy : MethodName := ⟨RX11, "copy", "([I[I)V"⟩
abbrev cX11_copyWords : ByteArray := prog_1_method_52_code
def yX11_copyWords : MethodName := ⟨RX11, "copyWords", "([J[J)V"⟩
abbrev cX11_compares : ByteArray := prog_1_method_53_code
def yX11_compares : MethodName := ⟨RX11, "compares", "(III)Z"⟩
abbrev cX11_commonDivisor : ByteArray := prog_1_method_54_code
def yX11_commonDivisor : MethodName := ⟨RX11, "commonDivisor", "(II)I"⟩
def RX12 : String := "FollowingRefsModel"
def TX12 : u_T := fun k => match k with
  | 0 => ("FollowingRefsModel", "thrown", "I", false)
  | 1 => ("FollowingRefsModel", "tape", "[B", true)
  | 2 => ("FollowingRefsModel", "length", "I", false)
  | 3 => ("FollowingRefsModel", "size", "I", false)
  | 4 => ("FollowingRefsModel", "p", "I", false)
  | 5 => ("FollowingRefsModel", "limit", "I", false)
  | 6 => ("FollowingRefsModel", "s", "[I", true)
  | 7 => ("FollowingRefsModel", "h", "[I", true)
  | 8 => ("FollowingRefsModel", "read", "[I", true)
  | 9 => ("FollowingRefsModel", "line", "[I", true)
  | 10 => ("FollowingRefsModel", "names", "[J", true)
  | 11 => ("FollowingRefsModel", "reserved", "[J", true)
  | 12 => ("FollowingRefsModel", "token", "I", false)
  | 13 => ("FollowingRefsModel", "at", "I", false)
  | 14 => ("FollowingRefsModel", "span", "I", false)
  | 15 => ("FollowingRefsModel", "number", "I", false)
  | 16 => ("FollowingRefsModel", "fault", "I", false)
  | 17 => ("FollowingRefsModel", "faultAt", "I", false)
  | 18 => ("FollowingRefsModel", "word", "J", false)
  | 19 => ("FollowingRefsModel", "got", "I", false)
  | 20 => ("FollowingRefsModel", "lines", "I", false)
  | 21 => ("FollowingRefsModel", "colOne", "I", false)
  | 22 => ("FollowingRefsModel", "colTwo", "I", false)
  | 23 => ("FollowingRefsModel", "sorts", "[I", true)
  | 24 => ("FollowingRefsModel", "which", "[I", true)
  | 25 => ("FollowingRefsModel", "whose", "[I", true)
  | 26 => ("FollowingRefsModel", "violations", "I", false)
  | 27 => ("FollowingRefsModel", "want", "[I", true)
  | 28 => ("FollowingRefsModel", "ahead", "[I", true)
  | 29 => ("FollowingRefsModel", "goRow", "[I", true)
  | 30 => ("FollowingRefsModel", "was", "[I", true)
  | 31 => ("FollowingRefsModel", "foundMany", "I", false)
  | 32 => ("FollowingRefsModel", "goMany", "I", false)
  | 33 => ("FollowingRefsModel", "changed", "I", false)
  | 34 => ("FollowingRefsModel", "clashes", "Z", false)
  | 35 => ("FollowingRefsModel", "wantsMore", "Z", false)
  | 36 => ("FollowingRefsModel", "toldOne", "[I", true)
  | 37 => ("FollowingRefsModel", "toldGo", "[I", true)
  | 38 => ("FollowingRefsModel", "toldSort", "[I", true)
  | 39 => ("FollowingRefsModel", "toldWhich", "[I", true)
  | 40 => ("FollowingRefsModel", "toldWhose", "[I", true)
  | 41 => ("FollowingRefsModel", "toldMany0", "I", false)
  | 42 => ("FollowingRefsModel", "hasTold0", "Z", false)
  | 43 => ("FollowingRefsModel", "undone", "[I", true)
  | 44 => ("FollowingRefsModel", "undoMany", "I", false)
  | 45 => ("FollowingRefsModel", "before", "[I", true)
  | 46 => ("FollowingRefsModel", "orderRow", "[I", true)
  | 47 => ("FollowingRefsModel", "orderTry", "[I", true)
  | 48 => ("FollowingRefsModel", "orderMany", "I", false)
  | 49 => ("FollowingRefsModel", "text", "[B", true)
  | 50 => ("FollowingRefsModel", "textMany", "I", false)
  | 51 => ("FollowingRefsModel", "seed", "I", false)
  | 52 => ("FollowingRefsModel", "bookMany", "I", false)
  | 53 => ("FollowingRefsModel", "toldAt", "[I", true)
  | 54 => ("FollowingRefsModel", "first", "[I", true)
  | 55 => ("FollowingRefsModel", "hasTold", "Z", false)
  | 56 => ("FollowingRefsModel", "stack", "[I", true)
  | 57 => ("FollowingRefsModel", "codes", "I", false)
  | 58 => ("FollowingRefsModel", "ones", "I", false)
  | 59 => ("FollowingRefsModel", "top", "I", false)
  | 60 => ("FollowingRefsModel", "deep", "I", false)
  | 61 => ("FollowingRefsModel", "isWhole", "Z", false)
  | 62 => ("FollowingRefsModel", "truths", "[Z", true)
  | 63 => ("FollowingRefsModel", "imaged", "[I", true)
  | 64 => ("FollowingRefsModel", "namesKept", "[J", true)
  | _ => ("FollowingRefsModel", "areKept", "[Z", true)
def tyX12 : Nat → FieldType := fun k => match k with
  | 0 => .int
  | 1 => .array .byte
  | 2 => .int
  | 3 => .int
  | 4 => .int
  | 5 => .int
  | 6 => .array .int
  | 7 => .array .int
  | 8 => .array .int
  | 9 => .array .int
  | 10 => .array .long
  | 11 => .array .long
  | 12 => .int
  | 13 => .int
  | 14 => .int
  | 15 => .int
  | 16 => .int
  | 17 => .int
  | 18 => .long
  | 19 => .int
  | 20 => .int
  | 21 => .int
  | 22 => .int
  | 23 => .array .int
  | 24 => .array .int
  | 25 => .array .int
  | 26 => .int
  | 27 => .array .int
  | 28 => .array .int
  | 29 => .array .int
  | 30 => .array .int
  | 31 => .int
  | 32 => .int
  | 33 => .int
  | 34 => .boolean
  | 35 => .boolean
  | 36 => .array .int
  | 37 => .array .int
  | 38 => .array .int
  | 39 => .array .int
  | 40 => .array .int
  | 41 => .int
  | 42 => .boolean
  | 43 => .array .int
  | 44 => .int
  | 45 => .array .int
  | 46 => .array .int
  | 47 => .array .int
  | 48 => .int
  | 49 => .array .byte
  | 50 => .int
  | 51 => .int
  | 52 => .int
  | 53 => .array .int
  | 54 => .array .int
  | 55 => .boolean
  | 56 => .array .int
  | 57 => .int
  | 58 => .int
  | 59 => .int
  | 60 => .int
  | 61 => .boolean
  | 62 => .array .boolean
  | 63 => .array .int
  | 64 => .array .long
  | _ => .array .boolean
abbrev wsX120 : List Cond := u_ws RX12 TX12 66
theorem nmX12 : ∀ a, a < 66 → ∀ b, b < 66 → a ≠ b → (TX12 a).2.1 ≠ (TX12 b).2.1 := by decide +kernel
theorem tyX12_ok : ∀ k, k < 66 → parseFieldDescriptor (TX12 k).2.2.1 = some (tyX12 k) := by decide +kernel
abbrev cX12_thrown : ByteArray := prog_14_method_1_code
def yX12_thrown : MethodName := ⟨RX12, "thrown", "()I"⟩
abbrev cX12_throwsIf : ByteArray := prog_14_method_2_code
def yX12_throwsIf : MethodName := ⟨RX12, "throwsIf", "(Z)Z"⟩
abbrev cX12_feed : ByteArray := prog_14_method_3_code
def yX12_feed : MethodName := ⟨RX12, "feed", "(IIIII)I"⟩
abbrev cX12_four : ByteArray := prog_14_method_4_code
def yX12_four : MethodName := ⟨RX12, "four", "(I)V"⟩
abbrev cX12_end : ByteArray := prog_14_method_5_code
def yX12_end : MethodName := ⟨RX12, "end", "(I)Z"⟩
abbrev cX12_taken : ByteArray := prog_14_method_6_code
def yX12_taken : MethodName := ⟨RX12, "taken", "(I)V"⟩
abbrev cX12_isIn : ByteArray := prog_14_method_7_code
def yX12_isIn : MethodName := ⟨RX12, "isIn", "(III)Z"⟩
abbrev cX12_bitOf : ByteArray := prog_14_method_8_code
def yX12_bitOf : MethodName := ⟨RX12, "bitOf", "(II)Z"⟩
abbrev cX12_init : ByteArray := prog_14_method_9_code
def yX12_init : MethodName := ⟨RX12, "<init>", "()V"⟩
abbrev cX12_peek : ByteArray := prog_14_method_10_code
def yX12_peek : MethodName := ⟨RX12, "peek", "()I"⟩
abbrev cX12_isSmall : ByteArray := prog_14_method_11_code
def yX12_isSmall : MethodName := ⟨RX12, "isSmall", "(I)Z"⟩
abbrev cX12_isDigit : ByteArray := prog_14_method_12_code
def yX12_isDigit : MethodName := ⟨RX12, "isDigit", "(I)Z"⟩
abbrev cX12_next : ByteArray := prog_14_method_13_code
def yX12_next : MethodName := ⟨RX12, "next", "()V"⟩
abbrev cX12_bad : ByteArray := prog_14_method_14_code
def yX12_bad : MethodName := ⟨RX12, "bad", "(I)Z"⟩
abbrev cX12_isWord : ByteArray := prog_14_method_15_code
def yX12_isWord : MethodName := ⟨RX12, "isWord", "(J)Z"⟩
abbrev cX12_isSign : ByteArray := prog_14_method_16_code
def yX12_isSign : MethodName := ⟨RX12, "isSign", "(I)Z"⟩
abbrev cX12_sign : ByteArray := prog_14_method_17_code
def yX12_sign : MethodName := ⟨RX12, "sign", "(I)Z"⟩
abbrev cX12_isName : ByteArray := prog_14_method_18_code
def yX12_isName : MethodName := ⟨RX12, "isName", "()Z"⟩
abbrev cX12_takes : ByteArray := prog_14_method_19_code
def yX12_takes : MethodName := ⟨RX12, "takes", "(II)Z"⟩
abbrev cX12_seek : ByteArray := prog_14_method_20_code
def yX12_seek : MethodName := ⟨RX12, "seek", "(II)I"⟩
abbrev cX12_looksAt : ByteArray := prog_14_method_21_code
def yX12_looksAt : MethodName := ⟨RX12, "looksAt", "(II)Z"⟩
abbrev cX12_takesName : ByteArray := prog_14_method_22_code
def yX12_takesName : MethodName := ⟨RX12, "takesName", "(II)Z"⟩
abbrev cX12_readLine : ByteArray := prog_14_method_23_code
def yX12_readLine : MethodName := ⟨RX12, "readLine", "()Z"⟩
abbrev cX12_readTable : ByteArray := prog_14_method_24_code
def yX12_readTable : MethodName := ⟨RX12, "readTable", "()Z"⟩
abbrev cX12_takesTable : ByteArray := prog_14_method_25_code
def yX12_takesTable : MethodName := ⟨RX12, "takesTable", "()Z"⟩
abbrev cX12_takesCol : ByteArray := prog_14_method_26_code
def yX12_takesCol : MethodName := ⟨RX12, "takesCol", "(I)Z"⟩
abbrev cX12_takesCols : ByteArray := prog_14_method_27_code
def yX12_takesCols : MethodName := ⟨RX12, "takesCols", "(IZZ)Z"⟩
abbrev cX12_readKey : ByteArray := prog_14_method_28_code
def yX12_readKey : MethodName := ⟨RX12, "readKey", "()Z"⟩
abbrev cX12_keyOf : ByteArray := prog_14_method_29_code
def yX12_keyOf : MethodName := ⟨RX12, "keyOf", "(III)I"⟩
abbrev cX12_onWord : ByteArray := prog_14_method_30_code
def yX12_onWord : MethodName := ⟨RX12, "onWord", "()I"⟩
abbrev cX12_takesOn : ByteArray := prog_14_method_31_code
def yX12_takesOn : MethodName := ⟨RX12, "takesOn", "(I)Z"⟩
abbrev cX12_readRef : ByteArray := prog_14_method_32_code
def yX12_readRef : MethodName := ⟨RX12, "readRef", "()Z"⟩
abbrev cX12_readDefault : ByteArray := prog_14_method_33_code
def yX12_readDefault : MethodName := ⟨RX12, "readDefault", "()Z"⟩
abbrev cX12_readNeed : ByteArray := prog_14_method_34_code
def yX12_readNeed : MethodName := ⟨RX12, "readNeed", "()Z"⟩
abbrev cX12_readCheck : ByteArray := prog_14_method_35_code
def yX12_readCheck : MethodName := ⟨RX12, "readCheck", "()Z"⟩
abbrev cX12_schema : ByteArray := prog_14_method_36_code
def yX12_schema : MethodName := ⟨RX12, "schema", "()I"⟩
abbrev cX12_fault : ByteArray := prog_14_method_37_code
def yX12_fault : MethodName := ⟨RX12, "fault", "()I"⟩
abbrev cX12_isTable : ByteArray := prog_14_method_38_code
def yX12_isTable : MethodName := ⟨RX12, "isTable", "(I)Z"⟩
abbrev cX12_isCol : ByteArray := prog_14_method_39_code
def yX12_isCol : MethodName := ⟨RX12, "isCol", "(II)Z"⟩
abbrev cX12_isRow : ByteArray := prog_14_method_40_code
def yX12_isRow : MethodName := ⟨RX12, "isRow", "(I)Z"⟩
abbrev cX12_cellOf : ByteArray := prog_14_method_41_code
def yX12_cellOf : MethodName := ⟨RX12, "cellOf", "(II)I"⟩
abbrev cX12_rowsNow : ByteArray := prog_14_method_42_code
def yX12_rowsNow : MethodName := ⟨RX12, "rowsNow", "()I"⟩
abbrev cX12_refCol : ByteArray := prog_14_method_43_code
def yX12_refCol : MethodName := ⟨RX12, "refCol", "(II)I"⟩
abbrev cX12_keyCol : ByteArray := prog_14_method_44_code
def yX12_keyCol : MethodName := ⟨RX12, "keyCol", "(II)I"⟩
abbrev cX12_hasKey : ByteArray := prog_14_method_45_code
def yX12_hasKey : MethodName := ⟨RX12, "hasKey", "(IIII)Z"⟩
abbrev cX12_target : ByteArray := prog_14_method_46_code
def yX12_target : MethodName := ⟨RX12, "target", "(II)I"⟩
abbrev cX12_violates : ByteArray := prog_14_method_47_code
def yX12_violates : MethodName := ⟨RX12, "violates", "(III)V"⟩
abbrev cX12_isNeeded : ByteArray := prog_14_method_48_code
def yX12_isNeeded : MethodName := ⟨RX12, "isNeeded", "(II)Z"⟩
abbrev cX12_isRowOf : ByteArray := prog_14_method_49_code
def yX12_isRowOf : MethodName := ⟨RX12, "isRowOf", "(II)Z"⟩
abbrev cX12_isLikeEarlier : ByteArray := prog_14_method_50_code
def yX12_isLikeEarlier : MethodName := ⟨RX12, "isLikeEarlier", "(II)Z"⟩
abbrev cX12_isBadRef : ByteArray := prog_14_method_51_code
def yX12_isBadRef : MethodName := ⟨RX12, "isBadRef", "(II)Z"⟩
abbrev cX12_isBadCheck : ByteArray := prog_14_method_52_code
def yX12_isBadCheck : MethodName := ⟨RX12, "isBadCheck", "(II)Z"⟩
abbrev cX12_isSo : ByteArray := prog_14_method_53_code
def yX12_isSo : MethodName := ⟨RX12, "isSo", "(III)Z"⟩
abbrev cX12_judgesAll : ByteArray := prog_14_method_54_code
def yX12_judgesAll : MethodName := ⟨RX12, "judgesAll", "(Z)V"⟩
abbrev cX12_takesValue : ByteArray := prog_14_method_55_code
def yX12_takesValue : MethodName := ⟨RX12, "takesValue", "(I)Z"⟩
abbrev cX12_takesOwnTable : ByteArray := prog_14_method_56_code
def yX12_takesOwnTable : MethodName := ⟨RX12, "takesOwnTable", "(I)Z"⟩
abbrev cX12_looksAtCol : ByteArray := prog_14_method_57_code
def yX12_looksAtCol : MethodName := ⟨RX12, "looksAtCol", "(I)Z"⟩
abbrev cX12_takesConds : ByteArray := prog_14_method_58_code
def yX12_takesConds : MethodName := ⟨RX12, "takesConds", "(I)Z"⟩
abbrev cX12_takesInsert : ByteArray := prog_14_method_59_code
def yX12_takesInsert : MethodName := ⟨RX12, "takesInsert", "(I)Z"⟩
abbrev cX12_takesDelete : ByteArray := prog_14_method_60_code
def yX12_takesDelete : MethodName := ⟨RX12, "takesDelete", "(I)Z"⟩
abbrev cX12_takesSet : ByteArray := prog_14_method_61_code
def yX12_takesSet : MethodName := ⟨RX12, "takesSet", "(I)Z"⟩
abbrev cX12_takesStatement : ByteArray := prog_14_method_62_code
def yX12_takesStatement : MethodName := ⟨RX12, "takesStatement", "(I)Z"⟩
abbrev cX12_isFound : ByteArray := prog_14_method_63_code
def yX12_isFound : MethodName := ⟨RX12, "isFound", "(II)Z"⟩
abbrev cX12_wants : ByteArray := prog_14_method_64_code
def yX12_wants : MethodName := ⟨RX12, "wants", "(III)V"⟩
abbrev cX12_isOther : ByteArray := prog_14_method_65_code
def yX12_isOther : MethodName := ⟨RX12, "isOther", "(II)Z"⟩
abbrev cX12_wantsAll : ByteArray := prog_14_method_66_code
def yX12_wantsAll : MethodName := ⟨RX12, "wantsAll", "(IIZ)V"⟩
abbrev cX12_followsKey : ByteArray := prog_14_method_67_code
def yX12_followsKey : MethodName := ⟨RX12, "followsKey", "(III)V"⟩
abbrev cX12_follows : ByteArray := prog_14_method_68_code
def yX12_follows : MethodName := ⟨RX12, "follows", "(I)V"⟩
abbrev cX12_closes : ByteArray := prog_14_method_69_code
def yX12_closes : MethodName := ⟨RX12, "closes", "()V"⟩
abbrev cX12_laysAhead : ByteArray := prog_14_method_70_code
def yX12_laysAhead : MethodName := ⟨RX12, "laysAhead", "()V"⟩
abbrev cX12_inserts : ByteArray := prog_14_method_71_code
def yX12_inserts : MethodName := ⟨RX12, "inserts", "(I)V"⟩
abbrev cX12_doesAll : ByteArray := prog_14_method_72_code
def yX12_doesAll : MethodName := ⟨RX12, "doesAll", "()I"⟩
abbrev cX12_judges : ByteArray := prog_14_method_73_code
def yX12_judges : MethodName := ⟨RX12, "judges", "(I)I"⟩
abbrev cX12_touched : ByteArray := prog_14_method_74_code
def yX12_touched : MethodName := ⟨RX12, "touched", "(I)I"⟩
abbrev cX12_readsOne : ByteArray := prog_14_method_75_code
def yX12_readsOne : MethodName := ⟨RX12, "readsOne", "()Z"⟩
abbrev cX12_statement : ByteArray := prog_14_method_76_code
def yX12_statement : MethodName := ⟨RX12, "statement", "()I"⟩
abbrev cX12_would : ByteArray := prog_14_method_77_code
def yX12_would : MethodName := ⟨RX12, "would", "()I"⟩
abbrev cX12_judged : ByteArray := prog_14_method_78_code
def yX12_judged : MethodName := ⟨RX12, "judged", "(I)I"⟩
abbrev cX12_goes : ByteArray := prog_14_method_79_code
def yX12_goes : MethodName := ⟨RX12, "goes", "(I)I"⟩
abbrev cX12_steps : ByteArray := prog_14_method_80_code
def yX12_steps : MethodName := ⟨RX12, "steps", "(I)I"⟩
abbrev cX12_violated : ByteArray := prog_14_method_81_code
def yX12_violated : MethodName := ⟨RX12, "violated", "(II)I"⟩
abbrev cX12_begin : ByteArray := prog_14_method_82_code
def yX12_begin : MethodName := ⟨RX12, "begin", "()I"⟩
abbrev cX12_begins : ByteArray := prog_14_method_83_code
def yX12_begins : MethodName := ⟨RX12, "begins", "()V"⟩
abbrev cX12_whyCommit : ByteArray := prog_14_method_84_code
def yX12_whyCommit : MethodName := ⟨RX12, "whyCommit", "()I"⟩
abbrev cX12_backs : ByteArray := prog_14_method_85_code
def yX12_backs : MethodName := ⟨RX12, "backs", "()V"⟩
abbrev cX12_clears2 : ByteArray := prog_14_method_86_code
def yX12_clears2 : MethodName := ⟨RX12, "clears2", "()V"⟩
abbrev cX12_commits : ByteArray := prog_14_method_87_code
def yX12_commits : MethodName := ⟨RX12, "commits", "()V"⟩
abbrev cX12_commit : ByteArray := prog_14_method_88_code
def yX12_commit : MethodName := ⟨RX12, "commit", "()I"⟩
abbrev cX12_back : ByteArray := prog_14_method_89_code
def yX12_back : MethodName := ⟨RX12, "back", "()I"⟩
abbrev cX12_tellsViolations : ByteArray := prog_14_method_90_code
def yX12_tellsViolations : MethodName := ⟨RX12, "tellsViolations", "()V"⟩
abbrev cX12_tells : ByteArray := prog_14_method_91_code
def yX12_tells : MethodName := ⟨RX12, "tells", "(I)V"⟩
abbrev cX12_stores : ByteArray := prog_14_method_92_code
def yX12_stores : MethodName := ⟨RX12, "stores", "([I)V"⟩
abbrev cX12_tries : ByteArray := prog_14_method_93_code
def yX12_tries : MethodName := ⟨RX12, "tries", "()V"⟩
abbrev cX12_keeps : ByteArray := prog_14_method_95_code
def yX12_keeps : MethodName := ⟨RX12, "keeps", "()V"⟩
abbrev cX12_undo : ByteArray := prog_14_method_96_code
def yX12_undo : MethodName := ⟨RX12, "undo", "()I"⟩
abbrev cX12_violationsNow : ByteArray := prog_14_method_97_code
def yX12_violationsNow : MethodName := ⟨RX12, "violationsNow", "()I"⟩
abbrev cX12_now : ByteArray := prog_14_method_98_code
def yX12_now : MethodName := ⟨RX12, "now", "(I)I"⟩
abbrev cX12_rows : ByteArray := prog_14_method_99_code
def yX12_rows : MethodName := ⟨RX12, "rows", "(I)I"⟩
abbrev cX12_row : ByteArray := prog_14_method_100_code
def yX12_row : MethodName := ⟨RX12, "row", "(II)I"⟩
abbrev cX12_tableOf : ByteArray := prog_14_method_101_code
def yX12_tableOf : MethodName := ⟨RX12, "tableOf", "(I)I"⟩
abbrev cX12_cell : ByteArray := prog_14_method_102_code
def yX12_cell : MethodName := ⟨RX12, "cell", "(II)I"⟩
abbrev cX12_refers : ByteArray := prog_14_method_103_code
def yX12_refers : MethodName := ⟨RX12, "refers", "(II)I"⟩
abbrev cX12_referredTo : ByteArray := prog_14_method_104_code
def yX12_referredTo : MethodName := ⟨RX12, "referredTo", "(I)I"⟩
abbrev cX12_referred : ByteArray := prog_14_method_105_code
def yX12_referred : MethodName := ⟨RX12, "referred", "(I)I"⟩
abbrev cX12_perils : ByteArray := prog_14_method_106_code
def yX12_perils : MethodName := ⟨RX12, "perils", "(I)I"⟩
abbrev cX12_table : ByteArray := prog_14_method_107_code
def yX12_table : MethodName := ⟨RX12, "table", "(II)I"⟩
abbrev cX12_col : ByteArray := prog_14_method_108_code
def yX12_col : MethodName := ⟨RX12, "col", "(III)I"⟩
abbrev cX12_ref : ByteArray := prog_14_method_109_code
def yX12_ref : MethodName := ⟨RX12, "ref", "(II)I"⟩
abbrev cX12_isFree : ByteArray := prog_14_method_110_code
def yX12_isFree : MethodName := ⟨RX12, "isFree", "(II)Z"⟩
abbrev cX12_order : ByteArray := prog_14_method_111_code
def yX12_order : MethodName := ⟨RX12, "order", "()I"⟩
abbrev cX12_orderAt : ByteArray := prog_14_method_112_code
def yX12_orderAt : MethodName := ⟨RX12, "orderAt", "(I)I"⟩
abbrev cX12_mean : ByteArray := prog_14_method_113_code
def yX12_mean : MethodName := ⟨RX12, "mean", "(III)I"⟩
abbrev cX12_lays : ByteArray := prog_14_method_114_code
def yX12_lays : MethodName := ⟨RX12, "lays", "(I)V"⟩
abbrev cX12_spells : ByteArray := prog_14_method_115_code
def yX12_spells : MethodName := ⟨RX12, "spells", "(J)V"⟩
abbrev cX12_laysNumber : ByteArray := prog_14_method_116_code
def yX12_laysNumber : MethodName := ⟨RX12, "laysNumber", "(I)V"⟩
abbrev cX12_tag : ByteArray := prog_14_method_117_code
def yX12_tag : MethodName := ⟨RX12, "tag", "(I)I"⟩
abbrev cX12_byteAt : ByteArray := prog_14_method_118_code
def yX12_byteAt : MethodName := ⟨RX12, "byteAt", "(I)I"⟩
abbrev cX12_draw : ByteArray := prog_14_method_119_code
def yX12_draw : MethodName := ⟨RX12, "draw", "(I)I"⟩
abbrev cX12_drawsLine : ByteArray := prog_14_method_120_code
def yX12_drawsLine : MethodName := ⟨RX12, "drawsLine", "(II)V"⟩
abbrev cX12_drawDeed : ByteArray := prog_14_method_121_code
def yX12_drawDeed : MethodName := ⟨RX12, "drawDeed", "()Z"⟩
abbrev cX12_drawn : ByteArray := prog_14_method_122_code
def yX12_drawn : MethodName := ⟨RX12, "drawn", "(II)I"⟩
abbrev cX12_bookLine : ByteArray := prog_14_method_123_code
def yX12_bookLine : MethodName := ⟨RX12, "bookLine", "()Z"⟩
abbrev cX12_does : ByteArray := prog_14_method_124_code
def yX12_does : MethodName := ⟨RX12, "does", "(I)I"⟩
abbrev cX12_book : ByteArray := prog_14_method_125_code
def yX12_book : MethodName := ⟨RX12, "book", "(I)I"⟩
abbrev cX12_told : ByteArray := prog_14_method_126_code
def yX12_told : MethodName := ⟨RX12, "told", "(I)I"⟩
abbrev cX12_packOf : ByteArray := prog_14_method_127_code
def yX12_packOf : MethodName := ⟨RX12, "packOf", "()I"⟩
abbrev cX12_code : ByteArray := prog_14_method_128_code
def yX12_code : MethodName := ⟨RX12, "code", "(III)V"⟩
abbrev cX12_joins : ByteArray := prog_14_method_129_code
def yX12_joins : MethodName := ⟨RX12, "joins", "(I)V"⟩
abbrev cX12_nots : ByteArray := prog_14_method_130_code
def yX12_nots : MethodName := ⟨RX12, "nots", "()V"⟩
abbrev cX12_leafOf : ByteArray := prog_14_method_131_code
def yX12_leafOf : MethodName := ⟨RX12, "leafOf", "()I"⟩
abbrev cX12_operand : ByteArray := prog_14_method_132_code
def yX12_operand : MethodName := ⟨RX12, "operand", "()Z"⟩
abbrev cX12_behind : ByteArray := prog_14_method_133_code
def yX12_behind : MethodName := ⟨RX12, "behind", "()Z"⟩
abbrev cX12_sentence : ByteArray := prog_14_method_134_code
def yX12_sentence : MethodName := ⟨RX12, "sentence", "()I"⟩
abbrev cX12_isBroken : ByteArray := prog_14_method_135_code
def yX12_isBroken : MethodName := ⟨RX12, "isBroken", "(I)Z"⟩
abbrev cX12_isBare : ByteArray := prog_14_method_136_code
def yX12_isBare : MethodName := ⟨RX12, "isBare", "(I)Z"⟩
abbrev cX12_isLeaf : ByteArray := prog_14_method_137_code
def yX12_isLeaf : MethodName := ⟨RX12, "isLeaf", "(IIII)Z"⟩
abbrev cX12_isSaid : ByteArray := prog_14_method_138_code
def yX12_isSaid : MethodName := ⟨RX12, "isSaid", "(I)Z"⟩
abbrev cX12_said : ByteArray := prog_14_method_139_code
def yX12_said : MethodName := ⟨RX12, "said", "(I)I"⟩
abbrev cX12_image : ByteArray := prog_14_method_140_code
def yX12_image : MethodName := ⟨RX12, "image", "(I)Z"⟩
abbrev cX12_restore : ByteArray := prog_14_method_141_code
def yX12_restore : MethodName := ⟨RX12, "restore", "(I)Z"⟩
abbrev cX12_count : ByteArray := prog_14_method_142_code
def yX12_count : MethodName := ⟨RX12, "count", "(I)I"⟩
def RJx145de : String := "java/io/Serializable"
def TJx145de : u_T := fun k => match k with
  | _ => ("", "", "", false)
def tyJx145de : Nat → FieldType := fun k => match k with
  | _ => .int
abbrev wsJx145de0 : List Cond := u_ws RJx145de TJx145de 0
theorem nmJx145de : ∀ a, a < 0 → ∀ b, b < 0 → a ≠ b → (TJx145de a).2.1 ≠ (TJx145de b).2.1 := by decide +kernel
theorem tyJx145de_ok : ∀ k, k < 0 → parseFieldDescriptor (TJx145de k).2.2.1 = some (tyJx145de k) := by decide +kernel
def RJx9f9b0 : String := "java/lang/CharSequence"
def TJx9f9b0 : u_T := fun k => match k with
  | _ => ("", "", "", false)
def tyJx9f9b0 : Nat → FieldType := fun k => match k with
  | _ => .int
abbrev wsJx9f9b00 : List Cond := u_ws RJx9f9b0 TJx9f9b0 0
theorem nmJx9f9b0 : ∀ a, a < 0 → ∀ b, b < 0 → a ≠ b → (TJx9f9b0 a).2.1 ≠ (TJx9f9b0 b).2.1 := by decide +kernel
theorem tyJx9f9b0_ok : ∀ k, k < 0 → parseFieldDescriptor (TJx9f9b0 k).2.2.1 = some (tyJx9f9b0 k) := by decide +kernel
def RJxb160c : String := "java/lang/Comparable"
def TJxb160c : u_T := fun k => match k with
  | _ => ("", "", "", false)
def tyJxb160c : Nat → FieldType := fun k => match k with
  | _ => .int
abbrev wsJxb160c0 : List Cond := u_ws RJxb160c TJxb160c 0
theorem nmJxb160c : ∀ a, a < 0 → ∀ b, b < 0 → a ≠ b → (TJxb160c a).2.1 ≠ (TJxb160c b).2.1 := by decide +kernel
theorem tyJxb160c_ok : ∀ k, k < 0 → parseFieldDescriptor (TJxb160c k).2.2.1 = some (tyJxb160c k) := by decide +kernel
def RJ9 : String := "java/lang/Math"
def TJ9 : u_T := fun k => match k with
  | _ => ("", "", "", false)
def tyJ9 : Nat → FieldType := fun k => match k with
  | _ => .int
abbrev wsJ90 : List Cond := u_ws RJ9 TJ9 0
theorem nmJ9 : ∀ a, a < 0 → ∀ b, b < 0 → a ≠ b → (TJ9 a).2.1 ≠ (TJ9 b).2.1 := by decide +kernel
theorem tyJ9_ok : ∀ k, k < 0 → parseFieldDescriptor (TJ9 k).2.2.1 = some (tyJ9 k) := by decide +kernel
abbrev cJ9_min_7cf53 : ByteArray := prog_19_method_69_code
def yJ9_min_7cf53 : MethodName := ⟨RJ9, "min", "(II)I"⟩
def RJ0 : String := "java/lang/String"
def TJ0 : u_T := fun k => match k with
  | _ => ("", "", "", false)
def tyJ0 : Nat → FieldType := fun k => match k with
  | _ => .int
abbrev wsJ00 : List Cond := u_ws RJ0 TJ0 0
theorem nmJ0 : ∀ a, a < 0 → ∀ b, b < 0 → a ≠ b → (TJ0 a).2.1 ≠ (TJ0 b).2.1 := by decide +kernel
theorem tyJ0_ok : ∀ k, k < 0 → parseFieldDescriptor (TJ0 k).2.2.1 = some (tyJ0 k) := by decide +kernel
abbrev cJ0_length_8abf5 : ByteArray := prog_21_method_54_code
def yJ0_length_8abf5 : MethodName := ⟨RJ0, "length", "()I"⟩
abbrev cJ0_charAt_5068e : ByteArray := prog_21_method_56_code
def yJ0_charAt_5068e : MethodName := ⟨RJ0, "charAt", "(I)C"⟩
abbrev cJ0_coder_7d493 : ByteArray := prog_21_method_152_code
def yJ0_coder_7d493 : MethodName := ⟨RJ0, "coder", "()B"⟩
abbrev cJ0_isLatin1_aae02 : ByteArray := prog_21_method_154_code
def yJ0_isLatin1_aae02 : MethodName := ⟨RJ0, "isLatin1", "()Z"⟩
abbrev cJ0_checkIndex_df160 : ByteArray := prog_21_method_155_code
def yJ0_checkIndex_df160 : MethodName := ⟨RJ0, "checkIndex", "(II)V"⟩
def RJ1 : String := "java/lang/StringLatin1"
def TJ1 : u_T := fun k => match k with
  | _ => ("", "", "", false)
def tyJ1 : Nat → FieldType := fun k => match k with
  | _ => .int
abbrev wsJ10 : List Cond := u_ws RJ1 TJ1 0
theorem nmJ1 : ∀ a, a < 0 → ∀ b, b < 0 → a ≠ b → (TJ1 a).2.1 ≠ (TJ1 b).2.1 := by decide +kernel
theorem tyJ1_ok : ∀ k, k < 0 → parseFieldDescriptor (TJ1 k).2.2.1 = some (tyJ1 k) := by decide +kernel
abbrev cJ1_charAt_3b067 : ByteArray := prog_22_method_2_code
def yJ1_charAt_3b067 : MethodName := ⟨RJ1, "charAt", "([BI)C"⟩
def RJ2 : String := "java/lang/StringUTF16"
def TJ2 : u_T := fun k => match k with
  | _ => ("", "", "", false)
def tyJ2 : Nat → FieldType := fun k => match k with
  | _ => .int
abbrev wsJ20 : List Cond := u_ws RJ2 TJ2 0
theorem nmJ2 : ∀ a, a < 0 → ∀ b, b < 0 → a ≠ b → (TJ2 a).2.1 ≠ (TJ2 b).2.1 := by decide +kernel
theorem tyJ2_ok : ∀ k, k < 0 → parseFieldDescriptor (TJ2 k).2.2.1 = some (tyJ2 k) := by decide +kernel
abbrev cJ2_getChar_3b067 : ByteArray := prog_23_method_5_code
def yJ2_getChar_3b067 : MethodName := ⟨RJ2, "getChar", "([BI)C"⟩
abbrev cJ2_length_9d52b : ByteArray := prog_23_method_6_code
def yJ2_length_9d52b : MethodName := ⟨RJ2, "length", "([B)I"⟩
abbrev cJ2_charAt_3b067 : ByteArray := prog_23_method_83_code
def yJ2_charAt_3b067 : MethodName := ⟨RJ2, "charAt", "([BI)C"⟩
abbrev cJ2_checkIndex_2214a : ByteArray := prog_23_method_91_code
def yJ2_checkIndex_2214a : MethodName := ⟨RJ2, "checkIndex", "(I[B)V"⟩
def RJ10 : String := "java/lang/System"
def TJ10 : u_T := fun k => match k with
  | _ => ("", "", "", false)
def tyJ10 : Nat → FieldType := fun k => match k with
  | _ => .int
abbrev wsJ100 : List Cond := u_ws RJ10 TJ10 0
theorem nmJ10 : ∀ a, a < 0 → ∀ b, b < 0 → a ≠ b → (TJ10 a).2.1 ≠ (TJ10 b).2.1 := by decide +kernel
theorem tyJ10_ok : ∀ k, k < 0 → parseFieldDescriptor (TJ10 k).2.2.1 = some (tyJ10 k) := by decide +kernel
def RJxfd54e : String := "java/lang/constant/Constable"
def TJxfd54e : u_T := fun k => match k with
  | _ => ("", "", "", false)
def tyJxfd54e : Nat → FieldType := fun k => match k with
  | _ => .int
abbrev wsJxfd54e0 : List Cond := u_ws RJxfd54e TJxfd54e 0
theorem nmJxfd54e : ∀ a, a < 0 → ∀ b, b < 0 → a ≠ b → (TJxfd54e a).2.1 ≠ (TJxfd54e b).2.1 := by decide +kernel
theorem tyJxfd54e_ok : ∀ k, k < 0 → parseFieldDescriptor (TJxfd54e k).2.2.1 = some (tyJxfd54e k) := by decide +kernel
def RJx3cf43 : String := "java/lang/constant/ConstantDesc"
def TJx3cf43 : u_T := fun k => match k with
  | _ => ("", "", "", false)
def tyJx3cf43 : Nat → FieldType := fun k => match k with
  | _ => .int
abbrev wsJx3cf430 : List Cond := u_ws RJx3cf43 TJx3cf43 0
theorem nmJx3cf43 : ∀ a, a < 0 → ∀ b, b < 0 → a ≠ b → (TJx3cf43 a).2.1 ≠ (TJx3cf43 b).2.1 := by decide +kernel
theorem tyJx3cf43_ok : ∀ k, k < 0 → parseFieldDescriptor (TJx3cf43 k).2.2.1 = some (tyJx3cf43 k) := by decide +kernel
def RJ7 : String := "java/util/Arrays"
def TJ7 : u_T := fun k => match k with
  | _ => ("", "", "", false)
def tyJ7 : Nat → FieldType := fun k => match k with
  | _ => .int
abbrev wsJ70 : List Cond := u_ws RJ7 TJ7 0
theorem nmJ7 : ∀ a, a < 0 → ∀ b, b < 0 → a ≠ b → (TJ7 a).2.1 ≠ (TJ7 b).2.1 := by decide +kernel
theorem tyJ7_ok : ∀ k, k < 0 → parseFieldDescriptor (TJ7 k).2.2.1 = some (tyJ7 k) := by decide +kernel
abbrev cJ7_fill_53178 : ByteArray := prog_28_method_103_code
def yJ7_fill_53178 : MethodName := ⟨RJ7, "fill", "([II)V"⟩
def RJ3 : String := "jdk/internal/util/Preconditions"
def TJ3 : u_T := fun k => match k with
  | _ => ("", "", "", false)
def tyJ3 : Nat → FieldType := fun k => match k with
  | _ => .int
abbrev wsJ30 : List Cond := u_ws RJ3 TJ3 0
theorem nmJ3 : ∀ a, a < 0 → ∀ b, b < 0 → a ≠ b → (TJ3 a).2.1 ≠ (TJ3 b).2.1 := by decide +kernel
theorem tyJ3_ok : ∀ k, k < 0 → parseFieldDescriptor (TJ3 k).2.2.1 = some (tyJ3 k) := by decide +kernel
abbrev cJ3_checkIndex_8e157 : ByteArray := prog_30_method_11_code
def yJ3_checkIndex_8e157 : MethodName := ⟨RJ3, "checkIndex", "(IILjava/util/function/BiFunction;)I"⟩
def RL : String := "FollowingRefsLaw"
abbrev cL_cell : ByteArray := method_3_code
def yL_cell : MethodName := ⟨RL, "cell", "(LFollowingRefs;II[J)I"⟩
abbrev cL_col : ByteArray := method_4_code
def yL_col : MethodName := ⟨RL, "col", "(LFollowingRefs;III[J)I"⟩
abbrev cL_mean : ByteArray := method_5_code
def yL_mean : MethodName := ⟨RL, "mean", "(LFollowingRefs;III[J)I"⟩
abbrev cL_law : ByteArray := code
def yL_law : MethodName := ⟨RL, "law", "([I)Z"⟩
def wsL_law0_r1 : List Cond := [Cond.classLink RL 8 RX11, Cond.instantiable RX11 19, Cond.initialized RX11, Cond.classLink RL 23 RX12, Cond.instantiable RX12 66, Cond.initialized RX12, Cond.arrayClass .long, Cond.methodLink RL 22 yX11_init, Cond.instanceMethod yX11_init, Cond.code yX11_init cX11_init 2 none, Cond.methodLink RX11 3 objectInit, Cond.instanceMethod objectInit, Cond.code objectInit ⟨#[0xb1]⟩ 1 none, Cond.classLink RX11 9 RX9, Cond.instantiable RX9 10, Cond.initialized RX9, Cond.fieldLink RX11 12 "FollowingRefs" "tape" "LFollowingRefs$Text;", Cond.classLink RX11 16 RX4, Cond.instantiable RX4 12, Cond.initialized RX4, Cond.fieldLink RX11 19 "FollowingRefs" "plan" "LFollowingRefs$Schema;", Cond.classLink RX11 23 RX8, Cond.instantiable RX8 3, Cond.initialized RX8]
def wsL_law0_r2 : List Cond := [Cond.fieldLink RX11 26 "FollowingRefs" "state" "LFollowingRefs$State;", Cond.classLink RX11 30 RX6, Cond.instantiable RX6 4, Cond.initialized RX6, Cond.fieldLink RX11 33 "FollowingRefs" "sentenceNow" "LFollowingRefs$Sentence;", Cond.classLink RX11 37 RX5, Cond.instantiable RX5 6, Cond.initialized RX5, Cond.fieldLink RX11 42 "FollowingRefs" "schemaReader" "LFollowingRefs$SchemaReader;", Cond.classLink RX11 46 RX7, Cond.instantiable RX7 3, Cond.initialized RX7, Cond.fieldLink RX11 51 "FollowingRefs" "sentenceReader" "LFollowingRefs$SentenceReader;", Cond.classLink RX11 55 RX2, Cond.instantiable RX2 4, Cond.initialized RX2, Cond.fieldLink RX11 58 "FollowingRefs" "lines" "LFollowingRefs$Lines;", Cond.classLink RX11 62 RX1, Cond.instantiable RX1 17, Cond.initialized RX1, Cond.fieldLink RX11 67 "FollowingRefs" "latest" "LFollowingRefs$Judge;", Cond.fieldLink RX11 71 "FollowingRefs" "aside" "LFollowingRefs$Judge;", Cond.fieldLink RX11 74 "FollowingRefs" "earlier" "LFollowingRefs$State;", Cond.fieldLink RX11 77 "FollowingRefs" "undos" "[LFollowingRefs$State;"]
def wsL_law0_r3 : List Cond := [Cond.classLink RX11 81 RX0, Cond.fieldLink RX11 83 "FollowingRefs" "images" "[LFollowingRefs$Image;", Cond.arrayClass .int, Cond.fieldLink RX11 87 "FollowingRefs" "bookTold" "[I", Cond.arrayClass .byte, Cond.fieldLink RX11 91 "FollowingRefs" "tagBytes" "[B", Cond.instantiable RX0 4, Cond.initialized RX0, Cond.instanceMethod yX9_init, Cond.code yX9_init cX9_init 1 none, Cond.methodLink RX9 3 objectInit, Cond.fieldLink RX9 9 "FollowingRefs$Text" "bytes" "[B", Cond.fieldLink RX9 15 "FollowingRefs$Text" "tokens" "[J", Cond.instanceMethod yX4_init, Cond.code yX4_init cX4_init 1 none, Cond.methodLink RX4 3 objectInit, Cond.fieldLink RX4 9 "FollowingRefs$Schema" "names" "[J", Cond.fieldLink RX4 15 "FollowingRefs$Schema" "widths" "[I", Cond.fieldLink RX4 19 "FollowingRefs$Schema" "colNames" "[J", Cond.fieldLink RX4 22 "FollowingRefs$Schema" "defaults" "[I", Cond.fieldLink RX4 25 "FollowingRefs$Schema" "needs" "[I", Cond.fieldLink RX4 28 "FollowingRefs$Schema" "keyParts" "[I", Cond.fieldLink RX4 31 "FollowingRefs$Schema" "refParts" "[I", Cond.fieldLink RX4 34 "FollowingRefs$Schema" "checkParts" "[I"]
def wsL_law0_r4 : List Cond := [Cond.instanceMethod yX8_init, Cond.code yX8_init cX8_init 1 none, Cond.methodLink RX8 1 objectInit, Cond.classLink RX8 7 RX3, Cond.instantiable RX3 5, Cond.initialized RX3, Cond.fieldLink RX8 10 "FollowingRefs$State" "current" "LFollowingRefs$Rows;", Cond.fieldLink RX8 16 "FollowingRefs$State" "begun" "LFollowingRefs$Rows;", Cond.instanceMethod yX3_init, Cond.code yX3_init cX3_init 1 none, Cond.methodLink RX3 3 objectInit, Cond.fieldLink RX3 9 "FollowingRefs$Rows" "numbers" "[I", Cond.fieldLink RX3 15 "FollowingRefs$Rows" "owners" "[I", Cond.fieldLink RX3 18 "FollowingRefs$Rows" "values" "[I", Cond.instanceMethod yX6_init, Cond.code yX6_init cX6_init 1 none, Cond.methodLink RX6 3 objectInit, Cond.fieldLink RX6 9 "FollowingRefs$Sentence" "parts" "[I", Cond.methodLink RX11 39 yX5_init, Cond.instanceMethod yX5_init, Cond.code yX5_init cX5_init 2 none, Cond.methodLink RX5 3 objectInit, Cond.classLink RX5 9 RX4, Cond.fieldLink RX5 12 "FollowingRefs$SchemaReader" "draft" "LFollowingRefs$Schema;"]
def wsL_law0_r5 : List Cond := [Cond.fieldLink RX5 18 "FollowingRefs$SchemaReader" "text" "LFollowingRefs$Text;", Cond.methodLink RX11 48 yX7_init, Cond.instanceMethod yX7_init, Cond.code yX7_init cX7_init 3 none, Cond.methodLink RX7 3 objectInit, Cond.classLink RX7 9 RX6, Cond.fieldLink RX7 12 "FollowingRefs$SentenceReader" "draft" "LFollowingRefs$Sentence;", Cond.fieldLink RX7 18 "FollowingRefs$SentenceReader" "text" "LFollowingRefs$Text;", Cond.fieldLink RX7 22 "FollowingRefs$SentenceReader" "plan" "LFollowingRefs$Schema;", Cond.methodLink RX11 57 yX2_init, Cond.instanceMethod yX2_init, Cond.code yX2_init cX2_init 3 none, Cond.methodLink RX2 3 objectInit, Cond.fieldLink RX2 9 "FollowingRefs$Lines" "parts" "[I", Cond.fieldLink RX2 15 "FollowingRefs$Lines" "text" "LFollowingRefs$Text;", Cond.fieldLink RX2 19 "FollowingRefs$Lines" "plan" "LFollowingRefs$Schema;", Cond.methodLink RX11 64 yX1_init, Cond.instanceMethod yX1_init, Cond.code yX1_init cX1_init 3 none, Cond.methodLink RX1 3 objectInit, Cond.classLink RX1 9 RX3, Cond.fieldLink RX1 12 "FollowingRefs$Judge" "then" "LFollowingRefs$Rows;", Cond.classLink RX1 18 RX10, Cond.instantiable RX10 2]
def wsL_law0_r6 : List Cond := [Cond.initialized RX10, Cond.fieldLink RX1 21 "FollowingRefs$Judge" "violations" "LFollowingRefs$Violations;", Cond.fieldLink RX1 25 "FollowingRefs$Judge" "goers" "[I", Cond.fieldLink RX1 29 "FollowingRefs$Judge" "goerSteps" "[I", Cond.fieldLink RX1 32 "FollowingRefs$Judge" "stepsOf" "[I", Cond.fieldLink RX1 35 "FollowingRefs$Judge" "aims" "[I", Cond.fieldLink RX1 38 "FollowingRefs$Judge" "asked" "[I", Cond.fieldLink RX1 41 "FollowingRefs$Judge" "wanted" "[I", Cond.fieldLink RX1 44 "FollowingRefs$Judge" "plan" "LFollowingRefs$Schema;", Cond.fieldLink RX1 48 "FollowingRefs$Judge" "state" "LFollowingRefs$State;", Cond.instanceMethod yX10_init, Cond.code yX10_init cX10_init 1 none, Cond.methodLink RX10 3 objectInit, Cond.fieldLink RX10 9 "FollowingRefs$Violations" "packed" "[I", Cond.instanceMethod yX0_init, Cond.code yX0_init cX0_init 1 none, Cond.methodLink RX0 1 objectInit, Cond.classLink RX0 7 RX4, Cond.fieldLink RX0 10 "FollowingRefs$Image" "plan" "LFollowingRefs$Schema;", Cond.classLink RX0 16 RX8, Cond.fieldLink RX0 19 "FollowingRefs$Image" "state" "LFollowingRefs$State;", Cond.classLink RX0 23 RX6, Cond.fieldLink RX0 26 "FollowingRefs$Image" "sentence" "LFollowingRefs$Sentence;", Cond.methodLink RX11 96 yJ7_fill_53178]
def wsL_law0_r7 : List Cond := [Cond.static yJ7_fill_53178, Cond.initialized RJ7, Cond.code yJ7_fill_53178 cJ7_fill_53178 4 none, Cond.methodLink RL 25 yX12_init, Cond.instanceMethod yX12_init, Cond.code yX12_init cX12_init 1 none, Cond.methodLink RX12 27 objectInit, Cond.fieldLink RX12 14 "FollowingRefsModel" "tape" "[B", Cond.fieldLink RX12 33 "FollowingRefsModel" "s" "[I", Cond.fieldLink RX12 37 "FollowingRefsModel" "h" "[I", Cond.fieldLink RX12 40 "FollowingRefsModel" "read" "[I", Cond.fieldLink RX12 43 "FollowingRefsModel" "line" "[I", Cond.fieldLink RX12 46 "FollowingRefsModel" "names" "[J", Cond.fieldLink RX12 50 "FollowingRefsModel" "reserved" "[J", Cond.fieldLink RX12 53 "FollowingRefsModel" "sorts" "[I", Cond.fieldLink RX12 56 "FollowingRefsModel" "which" "[I", Cond.fieldLink RX12 59 "FollowingRefsModel" "whose" "[I", Cond.fieldLink RX12 62 "FollowingRefsModel" "want" "[I", Cond.fieldLink RX12 65 "FollowingRefsModel" "ahead" "[I", Cond.fieldLink RX12 68 "FollowingRefsModel" "goRow" "[I", Cond.fieldLink RX12 71 "FollowingRefsModel" "was" "[I", Cond.fieldLink RX12 74 "FollowingRefsModel" "toldOne" "[I", Cond.fieldLink RX12 77 "FollowingRefsModel" "toldGo" "[I", Cond.fieldLink RX12 80 "FollowingRefsModel" "toldSort" "[I"]
def wsL_law0_r8 : List Cond := [Cond.fieldLink RX12 83 "FollowingRefsModel" "toldWhich" "[I", Cond.fieldLink RX12 86 "FollowingRefsModel" "toldWhose" "[I", Cond.fieldLink RX12 89 "FollowingRefsModel" "undone" "[I", Cond.fieldLink RX12 92 "FollowingRefsModel" "before" "[I", Cond.fieldLink RX12 95 "FollowingRefsModel" "orderRow" "[I", Cond.fieldLink RX12 98 "FollowingRefsModel" "orderTry" "[I", Cond.fieldLink RX12 101 "FollowingRefsModel" "orderMany" "I", Cond.fieldLink RX12 104 "FollowingRefsModel" "text" "[B", Cond.fieldLink RX12 107 "FollowingRefsModel" "toldAt" "[I", Cond.fieldLink RX12 110 "FollowingRefsModel" "first" "[I", Cond.fieldLink RX12 113 "FollowingRefsModel" "stack" "[I", Cond.arrayClass .boolean, Cond.fieldLink RX12 116 "FollowingRefsModel" "truths" "[Z", Cond.fieldLink RX12 120 "FollowingRefsModel" "imaged" "[I", Cond.fieldLink RX12 123 "FollowingRefsModel" "namesKept" "[J", Cond.fieldLink RX12 126 "FollowingRefsModel" "areKept" "[Z", Cond.constantLong RX12 129 (499850046565), Cond.constantLong RX12 131 (7038329), Cond.constantLong RX12 133 (7497062), Cond.constantLong RX12 135 (29807), Cond.constantLong RX12 137 (125779836236645), Cond.constantLong RX12 139 (112628746448759), Cond.constantLong RX12 141 (427020345714), Cond.constantLong RX12 143 (491328333172)]
def wsL_law0_r9 : List Cond := [Cond.constantLong RX12 145 (1718971500), Cond.constantLong RX12 147 (1818326117), Cond.constantLong RX12 149 (28258988067220596), Cond.constantLong RX12 151 (1852138852), Cond.constantLong RX12 153 (426953237355), Cond.constantLong RX12 155 (115923103347316), Cond.constantLong RX12 157 (110386773062757), Cond.constantLong RX12 159 (26982), Cond.constantLong RX12 161 (6385252), Cond.constantLong RX12 163 (7562612), Cond.constantLong RX12 165 (422608071022), Cond.constantLong RX12 167 (109330228406644), Cond.constantLong RX12 169 (1650549611), Cond.constantLong RX12 171 (1852796517), Cond.constantLong RX12 173 (28530), Cond.constantLong RX12 175 (7237492), Cond.constantLong RX12 177 (1650553445), Cond.constantLong RX12 179 (461414299502), Cond.constantLong RX12 181 (108243635103086), Cond.constantLong RX12 183 (26990), Cond.constantLong RX12 185 (7499639), Cond.methodLink RL 26 yX11_feed, Cond.instanceMethod yX11_feed, Cond.selects RX11 yX11_feed yX11_feed]
def wsL_law0_r10 : List Cond := [Cond.code yX11_feed cX11_feed 6 (some .int), Cond.fieldLink RX11 102 "FollowingRefs$Text" "length" "I", Cond.methodLink RX11 106 yX9_append, Cond.instanceMethod yX9_append, Cond.selects RX9 yX9_append yX9_append, Cond.code yX9_append cX9_append 3 none, Cond.fieldLink RX9 19 "FollowingRefs$Text" "length" "I", Cond.methodLink RL 30 yX12_feed, Cond.instanceMethod yX12_feed, Cond.selects RX12 yX12_feed yX12_feed, Cond.code yX12_feed cX12_feed 6 (some .int), Cond.fieldLink RX12 1 "FollowingRefsModel" "thrown" "I", Cond.fieldLink RX12 7 "FollowingRefsModel" "length" "I", Cond.methodLink RX12 10 yX12_four, Cond.instanceMethod yX12_four, Cond.selects RX12 yX12_four yX12_four, Cond.code yX12_four cX12_four 3 none, Cond.methodLink RL 31 yX11_end, Cond.instanceMethod yX11_end, Cond.selects RX11 yX11_end yX11_end, Cond.code yX11_end cX11_end 2 (some .boolean), Cond.methodLink RL 35 yX12_end, Cond.instanceMethod yX12_end, Cond.selects RX12 yX12_end yX12_end]
def wsL_law0_r11 : List Cond := [Cond.code yX12_end cX12_end 2 (some .boolean), Cond.methodLink RL 36 yX11_schema, Cond.instanceMethod yX11_schema, Cond.selects RX11 yX11_schema yX11_schema, Cond.code yX11_schema cX11_schema 2 (some .int), Cond.fieldLink RX11 114 "FollowingRefs$Text" "faultPlace" "I", Cond.fieldLink RX11 117 "FollowingRefs$SchemaReader" "draft" "LFollowingRefs$Schema;", Cond.fieldLink RX11 128 "FollowingRefs" "undoable" "I", Cond.fieldLink RX11 131 "FollowingRefs$SchemaReader" "lineCount" "I", Cond.methodLink RX11 110 yX5_readSchema, Cond.instanceMethod yX5_readSchema, Cond.selects RX5 yX5_readSchema yX5_readSchema, Cond.code yX5_readSchema cX5_readSchema 3 (some .boolean), Cond.fieldLink RX5 25 "FollowingRefs$SchemaReader" "lineCount" "I", Cond.fieldLink RX5 35 "FollowingRefs$Text" "kind" "I", Cond.methodLink RX5 22 yX4_reset, Cond.instanceMethod yX4_reset, Cond.selects RX4 yX4_reset yX4_reset, Cond.code yX4_reset cX4_reset 1 none, Cond.fieldLink RX4 37 "FollowingRefs$Schema" "tables" "I", Cond.fieldLink RX4 41 "FollowingRefs$Schema" "keys" "I", Cond.fieldLink RX4 44 "FollowingRefs$Schema" "refs" "I", Cond.fieldLink RX4 47 "FollowingRefs$Schema" "checks" "I", Cond.methodLink RX4 50 yJ7_fill_53178]
def wsL_law0_r12 : List Cond := [Cond.methodLink RX5 29 yX9_start, Cond.instanceMethod yX9_start, Cond.selects RX9 yX9_start yX9_start, Cond.code yX9_start cX9_start 6 none, Cond.fieldLink RX9 23 "FollowingRefs$Text" "faultKind" "I", Cond.fieldLink RX9 26 "FollowingRefs$Text" "faultPlace" "I", Cond.fieldLink RX9 29 "FollowingRefs$Text" "tokenCount" "I", Cond.methodLink RX9 32 Lib.Math.min.name, Cond.static Lib.Math.min.name, Cond.initialized "java/lang/Math", Cond.code Lib.Math.min.name Lib.Math.min.code 2 (some .int), Cond.fieldLink RX9 62 "FollowingRefs$Text" "next" "I", Cond.methodLink RX9 38 yX9_byteIn, Cond.instanceMethod yX9_byteIn, Cond.selects RX9 yX9_byteIn yX9_byteIn, Cond.code yX9_byteIn cX9_byteIn 2 (some .int), Cond.methodLink RX9 42 yX9_isLetter, Cond.static yX9_isLetter, Cond.code yX9_isLetter cX9_isLetter 1 (some .boolean), Cond.methodLink RX9 46 yX9_isDigit, Cond.static yX9_isDigit, Cond.code yX9_isDigit cX9_isDigit 1 (some .boolean), Cond.methodLink RX9 49 yX9_keepRun, Cond.instanceMethod yX9_keepRun]
def wsL_law0_r13 : List Cond := [Cond.selects RX9 yX9_keepRun yX9_keepRun, Cond.code yX9_keepRun cX9_keepRun 9 (some .int), Cond.constantLong RX9 68 (32), Cond.methodLink RX9 70 yX9_kindOfWord, Cond.static yX9_kindOfWord, Cond.code yX9_kindOfWord cX9_kindOfWord 7 (some .int), Cond.methodLink RX9 90 yJ0_length_8abf5, Cond.instanceMethod yJ0_length_8abf5, Cond.selects RJ0 yJ0_length_8abf5 yJ0_length_8abf5, Cond.initialized RJ0, Cond.code yJ0_length_8abf5 cJ0_length_8abf5 1 (some .int), Cond.fieldLink RJ0 9 "java/lang/String" "value" "[B", Cond.methodLink RJ0 335 yJ0_coder_7d493, Cond.instanceMethod yJ0_coder_7d493, Cond.selects RJ0 yJ0_coder_7d493 yJ0_coder_7d493, Cond.code yJ0_coder_7d493 cJ0_coder_7d493 1 (some .byte), Cond.fieldLink RJ0 38 "java/lang/String" "COMPACT_STRINGS" "Z", Cond.fieldLink RJ0 15 "java/lang/String" "coder" "B", Cond.methodLink RX9 95 yJ0_charAt_5068e, Cond.instanceMethod yJ0_charAt_5068e, Cond.selects RJ0 yJ0_charAt_5068e yJ0_charAt_5068e, Cond.code yJ0_charAt_5068e cJ0_charAt_5068e 2 (some .char), Cond.methodLink RJ0 492 yJ0_isLatin1_aae02, Cond.instanceMethod yJ0_isLatin1_aae02]
def wsL_law0_r14 : List Cond := [Cond.selects RJ0 yJ0_isLatin1_aae02 yJ0_isLatin1_aae02, Cond.code yJ0_isLatin1_aae02 cJ0_isLatin1_aae02 1 (some .boolean), Cond.methodLink RJ0 495 yJ1_charAt_3b067, Cond.static yJ1_charAt_3b067, Cond.initialized RJ1, Cond.code yJ1_charAt_3b067 cJ1_charAt_3b067 2 (some .char), Cond.methodLink RJ1 9 yJ0_checkIndex_df160, Cond.static yJ0_checkIndex_df160, Cond.code yJ0_checkIndex_df160 cJ0_checkIndex_df160 2 none, Cond.fieldLink RJ0 1053 "jdk/internal/util/Preconditions" "SIOOBE_FORMATTER" "Ljava/util/function/BiFunction;", Cond.methodLink RJ0 1059 yJ3_checkIndex_8e157, Cond.static yJ3_checkIndex_8e157, Cond.initialized RJ3, Cond.code yJ3_checkIndex_8e157 cJ3_checkIndex_8e157 3 (some .int), Cond.methodLink RJ0 498 yJ2_charAt_3b067, Cond.static yJ2_charAt_3b067, Cond.initialized RJ2, Cond.code yJ2_charAt_3b067 cJ2_charAt_3b067 2 (some .char), Cond.methodLink RJ2 67 yJ2_checkIndex_2214a, Cond.static yJ2_checkIndex_2214a, Cond.code yJ2_checkIndex_2214a cJ2_checkIndex_2214a 2 none, Cond.methodLink RJ2 48 yJ2_length_9d52b, Cond.static yJ2_length_9d52b, Cond.code yJ2_length_9d52b cJ2_length_9d52b 1 (some .int)]
def wsL_law0_r15 : List Cond := [Cond.methodLink RJ2 414 yJ0_checkIndex_df160, Cond.methodLink RJ2 71 yJ2_getChar_3b067, Cond.static yJ2_getChar_3b067, Cond.code yJ2_getChar_3b067 cJ2_getChar_3b067 2 (some .char), Cond.fieldLink RJ2 44 "java/lang/StringUTF16" "$assertionsDisabled" "Z", Cond.fieldLink RJ2 59 "java/lang/StringUTF16" "HI_BYTE_SHIFT" "I", Cond.fieldLink RJ2 63 "java/lang/StringUTF16" "LO_BYTE_SHIFT" "I", Cond.methodLink RX9 58 yX9_keep, Cond.instanceMethod yX9_keep, Cond.selects RX9 yX9_keep yX9_keep, Cond.code yX9_keep cX9_keep 5 none, Cond.methodLink RX9 52 yX9_isBlank, Cond.static yX9_isBlank, Cond.code yX9_isBlank cX9_isBlank 1 (some .boolean), Cond.methodLink RX9 55 yX9_isSign, Cond.static yX9_isSign, Cond.code yX9_isSign cX9_isSign 1 (some .boolean), Cond.methodLink RX9 65 yX9_step, Cond.instanceMethod yX9_step, Cond.selects RX9 yX9_step yX9_step, Cond.code yX9_step cX9_step 3 none, Cond.constantLong RX9 74 (255), Cond.fieldLink RX9 76 "FollowingRefs$Text" "kind" "I", Cond.constantLong RX9 79 (1023)]
def wsL_law0_r16 : List Cond := [Cond.fieldLink RX9 81 "FollowingRefs$Text" "place" "I", Cond.fieldLink RX9 84 "FollowingRefs$Text" "held" "J", Cond.methodLink RX5 38 yX5_isFull, Cond.instanceMethod yX5_isFull, Cond.selects RX5 yX5_isFull yX5_isFull, Cond.code yX5_isFull cX5_isFull 2 (some .boolean), Cond.fieldLink RX5 67 "FollowingRefs$Schema" "tables" "I", Cond.fieldLink RX5 70 "FollowingRefs$Schema" "keys" "I", Cond.fieldLink RX5 73 "FollowingRefs$Schema" "refs" "I", Cond.fieldLink RX5 76 "FollowingRefs$Schema" "checks" "I", Cond.methodLink RX5 42 yX9_fail, Cond.instanceMethod yX9_fail, Cond.selects RX9 yX9_fail yX9_fail, Cond.code yX9_fail cX9_fail 2 (some .boolean), Cond.methodLink RX5 45 yX5_readTable, Cond.instanceMethod yX5_readTable, Cond.selects RX5 yX5_readTable yX5_readTable, Cond.code yX5_readTable cX5_readTable 3 (some .boolean), Cond.fieldLink RX5 82 "FollowingRefs$Text" "held" "J", Cond.methodLink RX5 79 yX9_step, Cond.methodLink RX5 86 yX4_tableNamed, Cond.instanceMethod yX4_tableNamed, Cond.selects RX4 yX4_tableNamed yX4_tableNamed, Cond.code yX4_tableNamed cX4_tableNamed 4 (some .int)]
def wsL_law0_r17 : List Cond := [Cond.methodLink RX4 72 yX4_name, Cond.instanceMethod yX4_name, Cond.selects RX4 yX4_name yX4_name, Cond.code yX4_name cX4_name 2 (some .long), Cond.methodLink RX5 90 yX4_addTable, Cond.instanceMethod yX4_addTable, Cond.selects RX4 yX4_addTable yX4_addTable, Cond.code yX4_addTable cX4_addTable 3 none, Cond.static yX11_put, Cond.code yX11_put cX11_put 3 none, Cond.methodLink RX5 94 yX4_colNamed, Cond.instanceMethod yX4_colNamed, Cond.selects RX4 yX4_colNamed yX4_colNamed, Cond.code yX4_colNamed cX4_colNamed 7 (some .int), Cond.methodLink RX5 98 yX4_width, Cond.instanceMethod yX4_width, Cond.selects RX4 yX4_width yX4_width, Cond.code yX4_width cX4_width 2 (some .int), Cond.methodLink RX5 102 yX4_addCol, Cond.instanceMethod yX4_addCol, Cond.selects RX4 yX4_addCol yX4_addCol, Cond.code yX4_addCol cX4_addCol 6 none, Cond.methodLink RX4 68 yX4_width, Cond.methodLink RX5 49 yX5_readKey]
def wsL_law0_r18 : List Cond := [Cond.instanceMethod yX5_readKey, Cond.selects RX5 yX5_readKey yX5_readKey, Cond.code yX5_readKey cX5_readKey 1 (some .boolean), Cond.fieldLink RX5 110 "FollowingRefs$SchemaReader" "owner" "I", Cond.fieldLink RX5 117 "FollowingRefs$SchemaReader" "first" "I", Cond.fieldLink RX5 120 "FollowingRefs$SchemaReader" "second" "I", Cond.methodLink RX5 123 yX5_takeCols, Cond.instanceMethod yX5_takeCols, Cond.selects RX5 yX5_takeCols yX5_takeCols, Cond.code yX5_takeCols cX5_takeCols 1 (some .boolean), Cond.methodLink RX5 106 yX9_takeTable, Cond.instanceMethod yX9_takeTable, Cond.selects RX9 yX9_takeTable yX9_takeTable, Cond.code yX9_takeTable cX9_takeTable 3 (some .int), Cond.methodLink RX9 99 yX9_fail, Cond.methodLink RX9 107 yX4_tableNamed, Cond.methodLink RX5 113 yX9_takeCol, Cond.instanceMethod yX9_takeCol, Cond.selects RX9 yX9_takeCol yX9_takeCol, Cond.code yX9_takeCol cX9_takeCol 5 (some .int), Cond.methodLink RX9 116 yX9_colHere, Cond.instanceMethod yX9_colHere, Cond.selects RX9 yX9_colHere yX9_colHere, Cond.code yX9_colHere cX9_colHere 5 (some .int)]
def wsL_law0_r19 : List Cond := [Cond.methodLink RX9 112 yX4_colNamed, Cond.methodLink RX5 126 yX4_addKey, Cond.instanceMethod yX4_addKey, Cond.selects RX4 yX4_addKey yX4_addKey, Cond.code yX4_addKey cX4_addKey 5 none, Cond.methodLink RX5 52 yX5_readRef, Cond.instanceMethod yX5_readRef, Cond.selects RX5 yX5_readRef yX5_readRef, Cond.code yX5_readRef cX5_readRef 6 (some .boolean), Cond.fieldLink RX5 138 "FollowingRefs$Schema" "refParts" "[I", Cond.methodLink RX5 64 yX9_take, Cond.instanceMethod yX9_take, Cond.selects RX9 yX9_take yX9_take, Cond.code yX9_take cX9_take 2 (some .boolean), Cond.methodLink RX5 130 yX5_takeKey, Cond.instanceMethod yX5_takeKey, Cond.selects RX5 yX5_takeKey yX5_takeKey, Cond.code yX5_takeKey cX5_takeKey 6 (some .int), Cond.methodLink RX5 149 yX9_colHere, Cond.methodLink RX5 152 yX4_keyAlike, Cond.instanceMethod yX4_keyAlike, Cond.selects RX4 yX4_keyAlike yX4_keyAlike, Cond.code yX4_keyAlike cX4_keyAlike 5 (some .int), Cond.methodLink RX4 91 yX4_keyPart]
def wsL_law0_r20 : List Cond := [Cond.instanceMethod yX4_keyPart, Cond.selects RX4 yX4_keyPart yX4_keyPart, Cond.code yX4_keyPart cX4_keyPart 3 (some .int), Cond.static yX11_at, Cond.code yX11_at cX11_at 2 (some .int), Cond.methodLink RX5 134 yX5_takeOn, Cond.instanceMethod yX5_takeOn, Cond.selects RX5 yX5_takeOn yX5_takeOn, Cond.code yX5_takeOn cX5_takeOn 2 (some .int), Cond.methodLink RX5 146 yX9_option, Cond.instanceMethod yX9_option, Cond.selects RX9 yX9_option yX9_option, Cond.code yX9_option cX9_option 2 (some .boolean), Cond.methodLink RX5 55 yX5_readDefault, Cond.instanceMethod yX5_readDefault, Cond.selects RX5 yX5_readDefault yX5_readDefault, Cond.code yX5_readDefault cX5_readDefault 4 (some .boolean), Cond.fieldLink RX5 163 "FollowingRefs$Schema" "defaults" "[I", Cond.methodLink RX5 156 yX4_defaultOf, Cond.instanceMethod yX4_defaultOf, Cond.selects RX4 yX4_defaultOf yX4_defaultOf, Cond.code yX4_defaultOf cX4_defaultOf 3 (some .int), Cond.methodLink RX4 76 yX4_has, Cond.instanceMethod yX4_has]
def wsL_law0_r21 : List Cond := [Cond.selects RX4 yX4_has yX4_has, Cond.code yX4_has cX4_has 3 (some .boolean), Cond.methodLink RX5 160 yX9_takeNumber, Cond.instanceMethod yX9_takeNumber, Cond.selects RX9 yX9_takeNumber yX9_takeNumber, Cond.code yX9_takeNumber cX9_takeNumber 2 (some .int), Cond.constantLong RX9 102 (99), Cond.methodLink RX5 58 yX5_readNeed, Cond.instanceMethod yX5_readNeed, Cond.selects RX5 yX5_readNeed yX5_readNeed, Cond.code yX5_readNeed cX5_readNeed 3 (some .boolean), Cond.fieldLink RX5 170 "FollowingRefs$Schema" "needs" "[I", Cond.methodLink RX5 166 yX4_needTold, Cond.instanceMethod yX4_needTold, Cond.selects RX4 yX4_needTold yX4_needTold, Cond.code yX4_needTold cX4_needTold 3 (some .boolean), Cond.methodLink RX5 61 yX5_readCheck, Cond.instanceMethod yX5_readCheck, Cond.selects RX5 yX5_readCheck yX5_readCheck, Cond.code yX5_readCheck cX5_readCheck 7 (some .boolean), Cond.fieldLink RX5 176 "FollowingRefs$Schema" "checkParts" "[I", Cond.methodLink RX5 173 yX9_takeComparison, Cond.instanceMethod yX9_takeComparison, Cond.selects RX9 yX9_takeComparison yX9_takeComparison]
def wsL_law0_r22 : List Cond := [Cond.code yX9_takeComparison cX9_takeComparison 2 (some .int), Cond.methodLink RX11 120 yX4_copyFrom, Cond.instanceMethod yX4_copyFrom, Cond.selects RX4 yX4_copyFrom yX4_copyFrom, Cond.code yX4_copyFrom cX4_copyFrom 2 none, Cond.static yX11_copyWords, Cond.code yX11_copyWords cX11_copyWords 2 none, Cond.methodLink RX11 404 Lib.Math.min.name, Cond.methodLink RX11 409 arraycopyName, Cond.native arraycopyName, Cond.static arraycopyName, Cond.initialized "java/lang/System", Cond.static yX11_copy, Cond.code yX11_copy cX11_copy 2 none, Cond.methodLink RX11 124 yX8_reset, Cond.instanceMethod yX8_reset, Cond.selects RX8 yX8_reset yX8_reset, Cond.code yX8_reset cX8_reset 1 none, Cond.fieldLink RX8 22 "FollowingRefs$State" "on" "Z", Cond.methodLink RX8 19 yX3_reset, Cond.instanceMethod yX3_reset, Cond.selects RX3 yX3_reset yX3_reset, Cond.code yX3_reset cX3_reset 1 none, Cond.fieldLink RX3 21 "FollowingRefs$Rows" "n" "I"]
def wsL_law0_r23 : List Cond := [Cond.fieldLink RX3 25 "FollowingRefs$Rows" "made" "I", Cond.methodLink RX11 127 yX6_reset, Cond.instanceMethod yX6_reset, Cond.selects RX6 yX6_reset yX6_reset, Cond.code yX6_reset cX6_reset 1 none, Cond.fieldLink RX6 15 "FollowingRefs$Sentence" "there" "Z", Cond.fieldLink RX6 19 "FollowingRefs$Sentence" "ones" "I", Cond.fieldLink RX6 23 "FollowingRefs$Sentence" "acts" "I", Cond.methodLink RL 40 yX12_schema, Cond.instanceMethod yX12_schema, Cond.selects RX12 yX12_schema yX12_schema, Cond.code yX12_schema cX12_schema 2 (some .int), Cond.fieldLink RX12 214 "FollowingRefsModel" "fault" "I", Cond.fieldLink RX12 305 "FollowingRefsModel" "lines" "I", Cond.fieldLink RX12 197 "FollowingRefsModel" "token" "I", Cond.fieldLink RX12 217 "FollowingRefsModel" "faultAt" "I", Cond.fieldLink RX12 314 "FollowingRefsModel" "undoMany" "I", Cond.methodLink RX12 302 yX12_taken, Cond.instanceMethod yX12_taken, Cond.selects RX12 yX12_taken yX12_taken, Cond.code yX12_taken cX12_taken 2 none, Cond.fieldLink RX12 18 "FollowingRefsModel" "size" "I", Cond.fieldLink RX12 21 "FollowingRefsModel" "p" "I", Cond.fieldLink RX12 24 "FollowingRefsModel" "limit" "I"]
def wsL_law0_r24 : List Cond := [Cond.methodLink RX12 226 yX12_next, Cond.instanceMethod yX12_next, Cond.selects RX12 yX12_next yX12_next, Cond.code yX12_next cX12_next 4 none, Cond.fieldLink RX12 191 "FollowingRefsModel" "at" "I", Cond.fieldLink RX12 194 "FollowingRefsModel" "span" "I", Cond.fieldLink RX12 207 "FollowingRefsModel" "number" "I", Cond.fieldLink RX12 210 "FollowingRefsModel" "word" "J", Cond.methodLink RX12 187 yX12_peek, Cond.instanceMethod yX12_peek, Cond.selects RX12 yX12_peek yX12_peek, Cond.code yX12_peek cX12_peek 1 (some .int), Cond.methodLink RX12 200 yX12_isSmall, Cond.static yX12_isSmall, Cond.code yX12_isSmall cX12_isSmall 1 (some .boolean), Cond.methodLink RX12 204 yX12_isDigit, Cond.static yX12_isDigit, Cond.code yX12_isDigit cX12_isDigit 1 (some .boolean), Cond.methodLink RX12 308 yX12_readLine, Cond.instanceMethod yX12_readLine, Cond.selects RX12 yX12_readLine yX12_readLine, Cond.code yX12_readLine cX12_readLine 1 (some .boolean), Cond.methodLink RX12 248 yX12_isWord, Cond.instanceMethod yX12_isWord]
def wsL_law0_r25 : List Cond := [Cond.selects RX12 yX12_isWord yX12_isWord, Cond.code yX12_isWord cX12_isWord 3 (some .boolean), Cond.methodLink RX12 252 yX12_readTable, Cond.instanceMethod yX12_readTable, Cond.selects RX12 yX12_readTable yX12_readTable, Cond.code yX12_readTable cX12_readTable 3 (some .boolean), Cond.methodLink RX12 223 yX12_bad, Cond.instanceMethod yX12_bad, Cond.selects RX12 yX12_bad yX12_bad, Cond.code yX12_bad cX12_bad 2 (some .boolean), Cond.methodLink RX12 236 yX12_isName, Cond.instanceMethod yX12_isName, Cond.selects RX12 yX12_isName yX12_isName, Cond.code yX12_isName cX12_isName 3 (some .boolean), Cond.methodLink RX12 240 yX12_seek, Cond.instanceMethod yX12_seek, Cond.selects RX12 yX12_seek yX12_seek, Cond.code yX12_seek cX12_seek 4 (some .int), Cond.methodLink RX12 220 yX12_isSign, Cond.instanceMethod yX12_isSign, Cond.selects RX12 yX12_isSign yX12_isSign, Cond.code yX12_isSign cX12_isSign 2 (some .boolean), Cond.methodLink RX12 255 yX12_readKey, Cond.instanceMethod yX12_readKey]
def wsL_law0_r26 : List Cond := [Cond.selects RX12 yX12_readKey yX12_readKey, Cond.code yX12_readKey cX12_readKey 3 (some .boolean), Cond.fieldLink RX12 233 "FollowingRefsModel" "got" "I", Cond.fieldLink RX12 276 "FollowingRefsModel" "colOne" "I", Cond.fieldLink RX12 279 "FollowingRefsModel" "colTwo" "I", Cond.methodLink RX12 282 yX12_takesTable, Cond.instanceMethod yX12_takesTable, Cond.selects RX12 yX12_takesTable yX12_takesTable, Cond.code yX12_takesTable cX12_takesTable 1 (some .boolean), Cond.methodLink RX12 270 yX12_takesName, Cond.instanceMethod yX12_takesName, Cond.selects RX12 yX12_takesName yX12_takesName, Cond.code yX12_takesName cX12_takesName 3 (some .boolean), Cond.methodLink RX12 244 yX12_looksAt, Cond.instanceMethod yX12_looksAt, Cond.selects RX12 yX12_looksAt yX12_looksAt, Cond.code yX12_looksAt cX12_looksAt 3 (some .boolean), Cond.methodLink RX12 285 yX12_takesCols, Cond.instanceMethod yX12_takesCols, Cond.selects RX12 yX12_takesCols yX12_takesCols, Cond.code yX12_takesCols cX12_takesCols 4 (some .boolean), Cond.methodLink RX12 273 yX12_takesCol, Cond.instanceMethod yX12_takesCol, Cond.selects RX12 yX12_takesCol yX12_takesCol]
def wsL_law0_r27 : List Cond := [Cond.code yX12_takesCol cX12_takesCol 2 (some .boolean), Cond.methodLink RX12 258 yX12_readRef, Cond.instanceMethod yX12_readRef, Cond.selects RX12 yX12_readRef yX12_readRef, Cond.code yX12_readRef cX12_readRef 8 (some .boolean), Cond.methodLink RX12 292 yX12_keyOf, Cond.instanceMethod yX12_keyOf, Cond.selects RX12 yX12_keyOf yX12_keyOf, Cond.code yX12_keyOf cX12_keyOf 5 (some .int), Cond.methodLink RX12 296 yX12_takesOn, Cond.instanceMethod yX12_takesOn, Cond.selects RX12 yX12_takesOn yX12_takesOn, Cond.code yX12_takesOn cX12_takesOn 3 (some .boolean), Cond.methodLink RX12 289 yX12_onWord, Cond.instanceMethod yX12_onWord, Cond.selects RX12 yX12_onWord yX12_onWord, Cond.code yX12_onWord cX12_onWord 1 (some .int), Cond.methodLink RX12 261 yX12_readDefault, Cond.instanceMethod yX12_readDefault, Cond.selects RX12 yX12_readDefault yX12_readDefault, Cond.code yX12_readDefault cX12_readDefault 3 (some .boolean), Cond.methodLink RX12 299 yX12_takes, Cond.instanceMethod yX12_takes, Cond.selects RX12 yX12_takes yX12_takes]
def wsL_law0_r28 : List Cond := [Cond.code yX12_takes cX12_takes 3 (some .boolean), Cond.methodLink RX12 229 yX12_isIn, Cond.static yX12_isIn, Cond.code yX12_isIn cX12_isIn 3 (some .boolean), Cond.methodLink RX12 264 yX12_readNeed, Cond.instanceMethod yX12_readNeed, Cond.selects RX12 yX12_readNeed yX12_readNeed, Cond.code yX12_readNeed cX12_readNeed 2 (some .boolean), Cond.methodLink RX12 267 yX12_readCheck, Cond.instanceMethod yX12_readCheck, Cond.selects RX12 yX12_readCheck yX12_readCheck, Cond.code yX12_readCheck cX12_readCheck 4 (some .boolean), Cond.methodLink RX12 311 yX12_sign, Cond.instanceMethod yX12_sign, Cond.selects RX12 yX12_sign yX12_sign, Cond.code yX12_sign cX12_sign 2 (some .boolean), Cond.methodLink RL 41 yX11_fault, Cond.instanceMethod yX11_fault, Cond.selects RX11 yX11_fault yX11_fault, Cond.code yX11_fault cX11_fault 1 (some .int), Cond.fieldLink RX11 134 "FollowingRefs$Text" "faultKind" "I", Cond.methodLink RL 44 yX12_fault, Cond.instanceMethod yX12_fault, Cond.selects RX12 yX12_fault yX12_fault]
def wsL_law0_r29 : List Cond := [Cond.code yX12_fault cX12_fault 1 (some .int), Cond.methodLink RL 45 yX11_statement, Cond.instanceMethod yX11_statement, Cond.selects RX11 yX11_statement yX11_statement, Cond.code yX11_statement cX11_statement 1 (some .int), Cond.methodLink RX11 137 yX11_decide, Cond.instanceMethod yX11_decide, Cond.selects RX11 yX11_decide yX11_decide, Cond.code yX11_decide cX11_decide 4 (some .int), Cond.fieldLink RX11 152 "FollowingRefs$State" "current" "LFollowingRefs$Rows;", Cond.fieldLink RX11 156 "FollowingRefs$Judge" "then" "LFollowingRefs$Rows;", Cond.fieldLink RX11 164 "FollowingRefs$Judge" "touched" "I", Cond.methodLink RX11 141 yX2_readStatement, Cond.instanceMethod yX2_readStatement, Cond.selects RX2 yX2_readStatement yX2_readStatement, Cond.code yX2_readStatement cX2_readStatement 2 (some .boolean), Cond.fieldLink RX2 39 "FollowingRefs$Lines" "count" "I", Cond.fieldLink RX2 49 "FollowingRefs$Text" "kind" "I", Cond.methodLink RX2 43 yX9_start, Cond.methodLink RX2 52 yX2_startsStatement, Cond.static yX2_startsStatement, Cond.code yX2_startsStatement cX2_startsStatement 1 (some .boolean), Cond.methodLink RX2 56 yX9_fail, Cond.methodLink RX2 59 yX9_step]
def wsL_law0_r30 : List Cond := [Cond.methodLink RX2 62 yX2_readLine, Cond.instanceMethod yX2_readLine, Cond.selects RX2 yX2_readLine yX2_readLine, Cond.code yX2_readLine cX2_readLine 5 (some .boolean), Cond.methodLink RX2 68 yX9_takeTable, Cond.methodLink RX2 72 yX2_startLine, Cond.instanceMethod yX2_startLine, Cond.selects RX2 yX2_startLine yX2_startLine, Cond.code yX2_startLine cX2_startLine 5 none, Cond.methodLink RX2 31 yX2_setPart, Cond.instanceMethod yX2_setPart, Cond.selects RX2 yX2_setPart yX2_setPart, Cond.code yX2_setPart cX2_setPart 4 none, Cond.methodLink RX2 75 yX2_readValues, Cond.instanceMethod yX2_readValues, Cond.selects RX2 yX2_readValues yX2_readValues, Cond.code yX2_readValues cX2_readValues 4 (some .boolean), Cond.fieldLink RX2 95 "FollowingRefs$Text" "faultKind" "I", Cond.methodLink RX2 85 yX4_width, Cond.methodLink RX2 91 yX9_takeValue, Cond.instanceMethod yX9_takeValue, Cond.selects RX9 yX9_takeValue yX9_takeValue, Cond.code yX9_takeValue cX9_takeValue 1 (some .int), Cond.methodLink RX9 104 yX9_takeNumber]
def wsL_law0_r31 : List Cond := [Cond.methodLink RX2 79 yX2_readConds, Cond.instanceMethod yX2_readConds, Cond.selects RX2 yX2_readConds yX2_readConds, Cond.code yX2_readConds cX2_readConds 7 (some .boolean), Cond.methodLink RX2 102 yX9_option, Cond.methodLink RX2 105 yX9_colHere, Cond.methodLink RX2 108 yX9_takeComparison, Cond.methodLink RX2 111 yX2_addCond, Cond.instanceMethod yX2_addCond, Cond.selects RX2 yX2_addCond yX2_addCond, Cond.code yX2_addCond cX2_addCond 7 none, Cond.methodLink RX2 35 yX2_part, Cond.instanceMethod yX2_part, Cond.selects RX2 yX2_part yX2_part, Cond.code yX2_part cX2_part 3 (some .int), Cond.methodLink RX2 82 yX2_readSets, Cond.instanceMethod yX2_readSets, Cond.selects RX2 yX2_readSets yX2_readSets, Cond.code yX2_readSets cX2_readSets 7 (some .boolean), Cond.methodLink RX2 98 yX9_takeCol, Cond.methodLink RX11 144 yX1_judge, Cond.instanceMethod yX1_judge, Cond.selects RX1 yX1_judge yX1_judge, Cond.code yX1_judge cX1_judge 3 (some .int)]
def wsL_law0_r32 : List Cond := [Cond.fieldLink RX1 65 "FollowingRefs$Judge" "why" "I", Cond.fieldLink RX1 89 "FollowingRefs$State" "on" "Z", Cond.methodLink RX1 52 yX1_reset, Cond.instanceMethod yX1_reset, Cond.selects RX1 yX1_reset yX1_reset, Cond.code yX1_reset cX1_reset 1 none, Cond.fieldLink RX1 102 "FollowingRefs$Judge" "any" "Z", Cond.fieldLink RX1 105 "FollowingRefs$Judge" "found" "I", Cond.fieldLink RX1 108 "FollowingRefs$Judge" "going" "I", Cond.fieldLink RX1 111 "FollowingRefs$Judge" "changed" "I", Cond.fieldLink RX1 114 "FollowingRefs$Judge" "touched" "I", Cond.methodLink RX1 117 yX10_reset, Cond.instanceMethod yX10_reset, Cond.selects RX10 yX10_reset yX10_reset, Cond.code yX10_reset cX10_reset 1 none, Cond.fieldLink RX10 15 "FollowingRefs$Violations" "n" "I", Cond.methodLink RX1 118 yJ7_fill_53178, Cond.methodLink RX1 55 yX2_part, Cond.methodLink RX1 61 yX1_insert, Cond.instanceMethod yX1_insert, Cond.selects RX1 yX1_insert yX1_insert, Cond.code yX1_insert cX1_insert 3 (some .boolean), Cond.fieldLink RX1 124 "FollowingRefs$State" "current" "LFollowingRefs$Rows;", Cond.methodLink RX1 127 yX3_hasRoom]
def wsL_law0_r33 : List Cond := [Cond.instanceMethod yX3_hasRoom, Cond.selects RX3 yX3_hasRoom yX3_hasRoom, Cond.code yX3_hasRoom cX3_hasRoom 1 (some .boolean), Cond.methodLink RX1 130 yX3_copyFrom, Cond.instanceMethod yX3_copyFrom, Cond.selects RX3 yX3_copyFrom yX3_copyFrom, Cond.code yX3_copyFrom cX3_copyFrom 2 none, Cond.methodLink RX1 134 yX3_add, Cond.instanceMethod yX3_add, Cond.selects RX3 yX3_add yX3_add, Cond.code yX3_add cX3_add 5 none, Cond.methodLink RX3 36 yX2_part, Cond.methodLink RX3 42 yX3_setValue, Cond.instanceMethod yX3_setValue, Cond.selects RX3 yX3_setValue yX3_setValue, Cond.code yX3_setValue cX3_setValue 4 none, Cond.methodLink RX1 69 yX1_findAims, Cond.instanceMethod yX1_findAims, Cond.selects RX1 yX1_findAims yX1_findAims, Cond.code yX1_findAims cX1_findAims 3 none, Cond.fieldLink RX1 138 "FollowingRefs$Rows" "n" "I", Cond.fieldLink RX1 141 "FollowingRefs$Schema" "refs" "I", Cond.methodLink RX1 146 yX3_aim, Cond.instanceMethod yX3_aim]
def wsL_law0_r34 : List Cond := [Cond.selects RX3 yX3_aim yX3_aim, Cond.code yX3_aim cX3_aim 12 (some .int), Cond.methodLink RX3 53 yX3_tableAt, Cond.instanceMethod yX3_tableAt, Cond.selects RX3 yX3_tableAt yX3_tableAt, Cond.code yX3_tableAt cX3_tableAt 2 (some .int), Cond.methodLink RX3 57 yX4_refPart, Cond.instanceMethod yX4_refPart, Cond.selects RX4 yX4_refPart yX4_refPart, Cond.code yX4_refPart cX4_refPart 3 (some .int), Cond.methodLink RX3 50 yX3_value, Cond.instanceMethod yX3_value, Cond.selects RX3 yX3_value yX3_value, Cond.code yX3_value cX3_value 4 (some .int), Cond.methodLink RX3 62 yX4_keyPart, Cond.methodLink RX1 72 yX1_findRows, Cond.instanceMethod yX1_findRows, Cond.selects RX1 yX1_findRows yX1_findRows, Cond.code yX1_findRows cX1_findRows 5 none, Cond.methodLink RX1 154 yX2_finds, Cond.instanceMethod yX2_finds, Cond.selects RX2 yX2_finds yX2_finds, Cond.code yX2_finds cX2_finds 10 (some .boolean), Cond.methodLink RX2 115 yX3_tableAt]
def wsL_law0_r35 : List Cond := [Cond.methodLink RX2 120 yX3_value, Cond.static yX11_compares, Cond.code yX11_compares cX11_compares 3 (some .boolean), Cond.methodLink RX1 158 yX1_wish, Cond.instanceMethod yX1_wish, Cond.selects RX1 yX1_wish yX1_wish, Cond.code yX1_wish cX1_wish 5 (some .boolean), Cond.fieldLink RX1 162 "FollowingRefs$Judge" "moved" "Z", Cond.methodLink RX1 76 yX1_spreadGoing, Cond.instanceMethod yX1_spreadGoing, Cond.selects RX1 yX1_spreadGoing yX1_spreadGoing, Cond.code yX1_spreadGoing cX1_spreadGoing 3 none, Cond.methodLink RX1 169 yX1_followsGoer, Cond.instanceMethod yX1_followsGoer, Cond.selects RX1 yX1_followsGoer yX1_followsGoer, Cond.code yX1_followsGoer cX1_followsGoer 5 (some .boolean), Cond.methodLink RX1 173 yX4_refPart, Cond.methodLink RX1 79 yX1_listGoing, Cond.instanceMethod yX1_listGoing, Cond.selects RX1 yX1_listGoing yX1_listGoing, Cond.code yX1_listGoing cX1_listGoing 2 none, Cond.methodLink RX1 176 yX3_numberAt, Cond.instanceMethod yX3_numberAt, Cond.selects RX3 yX3_numberAt yX3_numberAt]
def wsL_law0_r36 : List Cond := [Cond.code yX3_numberAt cX3_numberAt 2 (some .int), Cond.methodLink RX1 82 yX1_spreadValues, Cond.instanceMethod yX1_spreadValues, Cond.selects RX1 yX1_spreadValues yX1_spreadValues, Cond.code yX1_spreadValues cX1_spreadValues 4 (some .boolean), Cond.methodLink RX1 180 yX1_adapt, Cond.instanceMethod yX1_adapt, Cond.selects RX1 yX1_adapt yX1_adapt, Cond.code yX1_adapt cX1_adapt 12 (some .boolean), Cond.methodLink RX1 183 yX4_keyPart, Cond.methodLink RX1 186 yX1_becomesAnother, Cond.instanceMethod yX1_becomesAnother, Cond.selects RX1 yX1_becomesAnother yX1_becomesAnother, Cond.code yX1_becomesAnother cX1_becomesAnother 3 (some .boolean), Cond.methodLink RX1 189 yX1_wantedOf, Cond.instanceMethod yX1_wantedOf, Cond.selects RX1 yX1_wantedOf yX1_wantedOf, Cond.code yX1_wantedOf cX1_wantedOf 3 (some .int), Cond.methodLink RX1 195 yX3_value, Cond.methodLink RX1 192 yX4_defaultOf, Cond.methodLink RX1 86 yX1_build, Cond.instanceMethod yX1_build, Cond.selects RX1 yX1_build yX1_build, Cond.code yX1_build cX1_build 2 none]
def wsL_law0_r37 : List Cond := [Cond.methodLink RX1 198 yX1_changeRow, Cond.instanceMethod yX1_changeRow, Cond.selects RX1 yX1_changeRow yX1_changeRow, Cond.code yX1_changeRow cX1_changeRow 4 (some .boolean), Cond.methodLink RX1 206 yX3_setValue, Cond.methodLink RX1 202 yX3_keepOnly, Cond.instanceMethod yX3_keepOnly, Cond.selects RX3 yX3_keepOnly yX3_keepOnly, Cond.code yX3_keepOnly cX3_keepOnly 5 none, Cond.methodLink RX1 95 yX10_scan, Cond.instanceMethod yX10_scan, Cond.selects RX10 yX10_scan yX10_scan, Cond.code yX10_scan cX10_scan 6 (some .int), Cond.fieldLink RX10 19 "FollowingRefs$Schema" "tables" "I", Cond.fieldLink RX10 36 "FollowingRefs$Schema" "keys" "I", Cond.fieldLink RX10 43 "FollowingRefs$Schema" "refs" "I", Cond.fieldLink RX10 53 "FollowingRefs$Schema" "checks" "I", Cond.methodLink RX10 24 yX4_width, Cond.methodLink RX10 28 yX4_needed, Cond.instanceMethod yX4_needed, Cond.selects RX4 yX4_needed yX4_needed, Cond.code yX4_needed cX4_needed 3 (some .boolean), Cond.methodLink RX4 84 yX4_needTold, Cond.methodLink RX4 87 yX4_keysWith]
def wsL_law0_r38 : List Cond := [Cond.instanceMethod yX4_keysWith, Cond.selects RX4 yX4_keysWith yX4_keysWith, Cond.code yX4_keysWith cX4_keysWith 5 (some .int), Cond.methodLink RX10 32 yX10_addNeeds, Cond.instanceMethod yX10_addNeeds, Cond.selects RX10 yX10_addNeeds yX10_addNeeds, Cond.code yX10_addNeeds cX10_addNeeds 5 none, Cond.fieldLink RX10 66 "FollowingRefs$Rows" "n" "I", Cond.methodLink RX10 69 yX3_tableAt, Cond.methodLink RX10 72 yX3_value, Cond.methodLink RX10 75 yX3_numberAt, Cond.methodLink RX10 78 yX10_add, Cond.instanceMethod yX10_add, Cond.selects RX10 yX10_add yX10_add, Cond.code yX10_add cX10_add 4 none, Cond.methodLink RX10 39 yX10_addKeys, Cond.instanceMethod yX10_addKeys, Cond.selects RX10 yX10_addKeys yX10_addKeys, Cond.code yX10_addKeys cX10_addKeys 8 none, Cond.methodLink RX10 82 yX4_keyPart, Cond.methodLink RX10 85 yX10_isDouble, Cond.static yX10_isDouble, Cond.code yX10_isDouble cX10_isDouble 8 (some .boolean), Cond.methodLink RX10 46 yX4_refPart]
def wsL_law0_r39 : List Cond := [Cond.methodLink RX10 50 yX10_addRefs, Cond.instanceMethod yX10_addRefs, Cond.selects RX10 yX10_addRefs yX10_addRefs, Cond.code yX10_addRefs cX10_addRefs 12 none, Cond.methodLink RX10 89 yX3_aim, Cond.methodLink RX10 56 yX4_checkPart, Cond.instanceMethod yX4_checkPart, Cond.selects RX4 yX4_checkPart yX4_checkPart, Cond.code yX4_checkPart cX4_checkPart 3 (some .int), Cond.methodLink RX10 59 yX10_addChecks, Cond.instanceMethod yX10_addChecks, Cond.selects RX10 yX10_addChecks yX10_addChecks, Cond.code yX10_addChecks cX10_addChecks 11 none, Cond.methodLink RX1 99 yX10_tell, Cond.instanceMethod yX10_tell, Cond.selects RX10 yX10_tell yX10_tell, Cond.code yX10_tell cX10_tell 4 (some .int), Cond.methodLink RX11 148 yX11_keepForUndo, Cond.instanceMethod yX11_keepForUndo, Cond.selects RX11 yX11_keepForUndo yX11_keepForUndo, Cond.code yX11_keepForUndo cX11_keepForUndo 3 none, Cond.methodLink RX11 219 yX11_forgetOldest, Cond.instanceMethod yX11_forgetOldest, Cond.selects RX11 yX11_forgetOldest yX11_forgetOldest]
def wsL_law0_r40 : List Cond := [Cond.code yX11_forgetOldest cX11_forgetOldest 3 none, Cond.methodLink RX11 217 yX8_copyFrom, Cond.instanceMethod yX8_copyFrom, Cond.selects RX8 yX8_copyFrom yX8_copyFrom, Cond.code yX8_copyFrom cX8_copyFrom 2 none, Cond.methodLink RX8 26 yX3_copyFrom, Cond.methodLink RX11 159 yX3_copyFrom, Cond.methodLink RL 48 yX12_statement, Cond.instanceMethod yX12_statement, Cond.selects RX12 yX12_statement yX12_statement, Cond.code yX12_statement cX12_statement 2 (some .int), Cond.methodLink RX12 439 yX12_readsOne, Cond.instanceMethod yX12_readsOne, Cond.selects RX12 yX12_readsOne yX12_readsOne, Cond.code yX12_readsOne cX12_readsOne 1 (some .boolean), Cond.methodLink RX12 436 yX12_takesStatement, Cond.instanceMethod yX12_takesStatement, Cond.selects RX12 yX12_takesStatement yX12_takesStatement, Cond.code yX12_takesStatement cX12_takesStatement 2 (some .boolean), Cond.methodLink RX12 367 yX12_takesInsert, Cond.instanceMethod yX12_takesInsert, Cond.selects RX12 yX12_takesInsert yX12_takesInsert, Cond.code yX12_takesInsert cX12_takesInsert 3 (some .boolean), Cond.methodLink RX12 361 yX12_takesOwnTable]
def wsL_law0_r41 : List Cond := [Cond.instanceMethod yX12_takesOwnTable, Cond.selects RX12 yX12_takesOwnTable yX12_takesOwnTable, Cond.code yX12_takesOwnTable cX12_takesOwnTable 2 (some .boolean), Cond.methodLink RX12 358 yX12_takesValue, Cond.instanceMethod yX12_takesValue, Cond.selects RX12 yX12_takesValue yX12_takesValue, Cond.code yX12_takesValue cX12_takesValue 2 (some .boolean), Cond.methodLink RX12 370 yX12_takesDelete, Cond.instanceMethod yX12_takesDelete, Cond.selects RX12 yX12_takesDelete yX12_takesDelete, Cond.code yX12_takesDelete cX12_takesDelete 2 (some .boolean), Cond.methodLink RX12 364 yX12_takesConds, Cond.instanceMethod yX12_takesConds, Cond.selects RX12 yX12_takesConds yX12_takesConds, Cond.code yX12_takesConds cX12_takesConds 5 (some .boolean), Cond.methodLink RX12 355 yX12_looksAtCol, Cond.instanceMethod yX12_looksAtCol, Cond.selects RX12 yX12_looksAtCol yX12_looksAtCol, Cond.code yX12_looksAtCol cX12_looksAtCol 2 (some .boolean), Cond.methodLink RX12 373 yX12_takesSet, Cond.instanceMethod yX12_takesSet, Cond.selects RX12 yX12_takesSet yX12_takesSet, Cond.code yX12_takesSet cX12_takesSet 3 (some .boolean), Cond.methodLink RX12 442 yX12_judges]
def wsL_law0_r42 : List Cond := [Cond.instanceMethod yX12_judges, Cond.selects RX12 yX12_judges yX12_judges, Cond.code yX12_judges cX12_judges 4 (some .int), Cond.fieldLink RX12 405 "FollowingRefsModel" "foundMany" "I", Cond.fieldLink RX12 408 "FollowingRefsModel" "goMany" "I", Cond.fieldLink RX12 411 "FollowingRefsModel" "changed" "I", Cond.fieldLink RX12 380 "FollowingRefsModel" "clashes" "Z", Cond.fieldLink RX12 327 "FollowingRefsModel" "violations" "I", Cond.fieldLink RX12 376 "FollowingRefsModel" "wantsMore" "Z", Cond.methodLink RX12 402 yX12_laysAhead, Cond.instanceMethod yX12_laysAhead, Cond.selects RX12 yX12_laysAhead yX12_laysAhead, Cond.code yX12_laysAhead cX12_laysAhead 3 none, Cond.methodLink RX12 333 yX12_target, Cond.instanceMethod yX12_target, Cond.selects RX12 yX12_target yX12_target, Cond.code yX12_target cX12_target 6 (some .int), Cond.methodLink RX12 320 yX12_cellOf, Cond.instanceMethod yX12_cellOf, Cond.selects RX12 yX12_cellOf yX12_cellOf, Cond.code yX12_cellOf cX12_cellOf 3 (some .int), Cond.methodLink RX12 323 yX12_hasKey, Cond.instanceMethod yX12_hasKey, Cond.selects RX12 yX12_hasKey yX12_hasKey]
def wsL_law0_r43 : List Cond := [Cond.code yX12_hasKey cX12_hasKey 5 (some .boolean), Cond.methodLink RX12 414 yX12_rowsNow, Cond.instanceMethod yX12_rowsNow, Cond.selects RX12 yX12_rowsNow yX12_rowsNow, Cond.code yX12_rowsNow cX12_rowsNow 3 (some .int), Cond.methodLink RX12 417 yX12_isFound, Cond.instanceMethod yX12_isFound, Cond.selects RX12 yX12_isFound yX12_isFound, Cond.code yX12_isFound cX12_isFound 7 (some .boolean), Cond.methodLink RX12 330 yX12_isRowOf, Cond.instanceMethod yX12_isRowOf, Cond.selects RX12 yX12_isRowOf yX12_isRowOf, Cond.code yX12_isRowOf cX12_isRowOf 3 (some .boolean), Cond.methodLink RX12 336 yX12_isSo, Cond.static yX12_isSo, Cond.code yX12_isSo cX12_isSo 3 (some .boolean), Cond.methodLink RX12 386 yX12_wants, Cond.instanceMethod yX12_wants, Cond.selects RX12 yX12_wants yX12_wants, Cond.code yX12_wants cX12_wants 5 none, Cond.methodLink RX12 420 yX12_closes, Cond.instanceMethod yX12_closes, Cond.selects RX12 yX12_closes yX12_closes, Cond.code yX12_closes cX12_closes 7 none]
def wsL_law0_r44 : List Cond := [Cond.methodLink RX12 423 yX12_follows, Cond.instanceMethod yX12_follows, Cond.selects RX12 yX12_follows yX12_follows, Cond.code yX12_follows cX12_follows 4 none, Cond.methodLink RX12 399 yX12_followsKey, Cond.instanceMethod yX12_followsKey, Cond.selects RX12 yX12_followsKey yX12_followsKey, Cond.code yX12_followsKey cX12_followsKey 7 none, Cond.methodLink RX12 389 yX12_keyCol, Cond.instanceMethod yX12_keyCol, Cond.selects RX12 yX12_keyCol yX12_keyCol, Cond.code yX12_keyCol cX12_keyCol 3 (some .int), Cond.methodLink RX12 392 yX12_isOther, Cond.instanceMethod yX12_isOther, Cond.selects RX12 yX12_isOther yX12_isOther, Cond.code yX12_isOther cX12_isOther 3 (some .boolean), Cond.methodLink RX12 395 yX12_wantsAll, Cond.instanceMethod yX12_wantsAll, Cond.selects RX12 yX12_wantsAll yX12_wantsAll, Cond.code yX12_wantsAll cX12_wantsAll 6 none, Cond.methodLink RX12 383 yX12_refCol, Cond.instanceMethod yX12_refCol, Cond.selects RX12 yX12_refCol yX12_refCol, Cond.code yX12_refCol cX12_refCol 3 (some .int)]
def wsL_law0_r45 : List Cond := [Cond.methodLink RX12 426 yX12_doesAll, Cond.instanceMethod yX12_doesAll, Cond.selects RX12 yX12_doesAll yX12_doesAll, Cond.code yX12_doesAll cX12_doesAll 5 (some .int), Cond.methodLink RX12 429 yX12_inserts, Cond.instanceMethod yX12_inserts, Cond.selects RX12 yX12_inserts yX12_inserts, Cond.code yX12_inserts cX12_inserts 4 none, Cond.methodLink RX12 432 yX12_judgesAll, Cond.instanceMethod yX12_judgesAll, Cond.selects RX12 yX12_judgesAll yX12_judgesAll, Cond.code yX12_judgesAll cX12_judgesAll 5 none, Cond.methodLink RX12 339 yX12_isNeeded, Cond.instanceMethod yX12_isNeeded, Cond.selects RX12 yX12_isNeeded yX12_isNeeded, Cond.code yX12_isNeeded cX12_isNeeded 5 (some .boolean), Cond.methodLink RX12 342 yX12_violates, Cond.instanceMethod yX12_violates, Cond.selects RX12 yX12_violates yX12_violates, Cond.code yX12_violates cX12_violates 4 none, Cond.methodLink RX12 346 yX12_isLikeEarlier, Cond.instanceMethod yX12_isLikeEarlier, Cond.selects RX12 yX12_isLikeEarlier yX12_isLikeEarlier, Cond.code yX12_isLikeEarlier cX12_isLikeEarlier 7 (some .boolean)]
def wsL_law0_r46 : List Cond := [Cond.methodLink RX12 349 yX12_isBadRef, Cond.instanceMethod yX12_isBadRef, Cond.selects RX12 yX12_isBadRef yX12_isBadRef, Cond.code yX12_isBadRef cX12_isBadRef 5 (some .boolean), Cond.methodLink RX12 352 yX12_isBadCheck, Cond.instanceMethod yX12_isBadCheck, Cond.selects RX12 yX12_isBadCheck yX12_isBadCheck, Cond.code yX12_isBadCheck cX12_isBadCheck 5 (some .boolean), Cond.methodLink RX12 446 yX12_tells, Cond.instanceMethod yX12_tells, Cond.selects RX12 yX12_tells yX12_tells, Cond.code yX12_tells cX12_tells 3 none, Cond.fieldLink RX12 456 "FollowingRefsModel" "hasTold0" "Z", Cond.methodLink RX12 474 yX12_tellsViolations, Cond.instanceMethod yX12_tellsViolations, Cond.selects RX12 yX12_tellsViolations yX12_tellsViolations, Cond.code yX12_tellsViolations cX12_tellsViolations 2 none, Cond.fieldLink RX12 459 "FollowingRefsModel" "toldMany0" "I", Cond.methodLink RX12 449 yX12_stores, Cond.instanceMethod yX12_stores, Cond.selects RX12 yX12_stores yX12_stores, Cond.code yX12_stores cX12_stores 3 none, Cond.methodLink RX12 453 yX12_touched, Cond.instanceMethod yX12_touched]
def wsL_law0_r47 : List Cond := [Cond.selects RX12 yX12_touched yX12_touched, Cond.code yX12_touched cX12_touched 2 (some .int), Cond.methodLink RL 49 yX11_would, Cond.instanceMethod yX11_would, Cond.selects RX11 yX11_would yX11_would, Cond.code yX11_would cX11_would 1 (some .int), Cond.methodLink RL 52 yX12_would, Cond.instanceMethod yX12_would, Cond.selects RX12 yX12_would yX12_would, Cond.code yX12_would cX12_would 3 (some .int), Cond.methodLink RL 53 yX11_judged, Cond.instanceMethod yX11_judged, Cond.selects RX11 yX11_judged yX11_judged, Cond.code yX11_judged cX11_judged 2 (some .int), Cond.fieldLink RX11 167 "FollowingRefs$Judge" "any" "Z", Cond.fieldLink RX11 171 "FollowingRefs$Judge" "why" "I", Cond.fieldLink RX11 174 "FollowingRefs$Judge" "found" "I", Cond.fieldLink RX11 177 "FollowingRefs$Judge" "going" "I", Cond.fieldLink RX11 180 "FollowingRefs$Judge" "changed" "I", Cond.methodLink RL 57 yX12_judged, Cond.instanceMethod yX12_judged, Cond.selects RX12 yX12_judged yX12_judged, Cond.code yX12_judged cX12_judged 2 (some .int), Cond.methodLink RL 58 yX11_goes]
def wsL_law0_r48 : List Cond := [Cond.instanceMethod yX11_goes, Cond.selects RX11 yX11_goes yX11_goes, Cond.code yX11_goes cX11_goes 2 (some .int), Cond.fieldLink RX11 183 "FollowingRefs$Judge" "goers" "[I", Cond.methodLink RX11 186 yX11_at, Cond.methodLink RL 61 yX12_goes, Cond.instanceMethod yX12_goes, Cond.selects RX12 yX12_goes yX12_goes, Cond.code yX12_goes cX12_goes 4 (some .int), Cond.methodLink RL 62 yX11_steps, Cond.instanceMethod yX11_steps, Cond.selects RX11 yX11_steps yX11_steps, Cond.code yX11_steps cX11_steps 3 (some .int), Cond.fieldLink RX11 190 "FollowingRefs$Judge" "goerSteps" "[I", Cond.methodLink RL 65 yX12_steps, Cond.instanceMethod yX12_steps, Cond.selects RX12 yX12_steps yX12_steps, Cond.code yX12_steps cX12_steps 2 (some .int), Cond.methodLink RL 66 yX11_violated, Cond.instanceMethod yX11_violated, Cond.selects RX11 yX11_violated yX11_violated, Cond.code yX11_violated cX11_violated 3 (some .int), Cond.fieldLink RX11 193 "FollowingRefs$Judge" "violations" "LFollowingRefs$Violations;", Cond.methodLink RX11 197 yX10_tell]
def wsL_law0_r49 : List Cond := [Cond.methodLink RL 69 yX12_violated, Cond.instanceMethod yX12_violated, Cond.selects RX12 yX12_violated yX12_violated, Cond.code yX12_violated cX12_violated 3 (some .int), Cond.methodLink RL 70 yX11_begin, Cond.instanceMethod yX11_begin, Cond.selects RX11 yX11_begin yX11_begin, Cond.code yX11_begin cX11_begin 1 (some .int), Cond.fieldLink RX11 203 "FollowingRefs$State" "on" "Z", Cond.methodLink RX11 206 yX8_start, Cond.instanceMethod yX8_start, Cond.selects RX8 yX8_start yX8_start, Cond.code yX8_start cX8_start 1 (some .boolean), Cond.methodLink RL 73 yX12_begin, Cond.instanceMethod yX12_begin, Cond.selects RX12 yX12_begin yX12_begin, Cond.code yX12_begin cX12_begin 1 (some .int), Cond.methodLink RX12 462 yX12_keeps, Cond.instanceMethod yX12_keeps, Cond.selects RX12 yX12_keeps yX12_keeps, Cond.code yX12_keeps cX12_keeps 1 none, Cond.methodLink RX12 483 yX12_tries, Cond.instanceMethod yX12_tries, Cond.selects RX12 yX12_tries yX12_tries]
def wsL_law0_r50 : List Cond := [Cond.code yX12_tries cX12_tries 2 none, Cond.methodLink RX12 465 yX12_begins, Cond.instanceMethod yX12_begins, Cond.selects RX12 yX12_begins yX12_begins, Cond.code yX12_begins cX12_begins 2 none, Cond.methodLink RL 74 yX11_commit, Cond.instanceMethod yX11_commit, Cond.selects RX11 yX11_commit yX11_commit, Cond.code yX11_commit cX11_commit 1 (some .int), Cond.methodLink RX11 209 yX10_reset, Cond.methodLink RX11 210 yX10_scan, Cond.methodLink RL 77 yX12_commit, Cond.instanceMethod yX12_commit, Cond.selects RX12 yX12_commit yX12_commit, Cond.code yX12_commit cX12_commit 2 (some .int), Cond.methodLink RX12 471 yX12_whyCommit, Cond.instanceMethod yX12_whyCommit, Cond.selects RX12 yX12_whyCommit yX12_whyCommit, Cond.code yX12_whyCommit cX12_whyCommit 1 (some .int), Cond.methodLink RX12 477 yX12_commits, Cond.instanceMethod yX12_commits, Cond.selects RX12 yX12_commits yX12_commits, Cond.code yX12_commits cX12_commits 1 none, Cond.methodLink RX12 468 yX12_clears2]
def wsL_law0_r51 : List Cond := [Cond.instanceMethod yX12_clears2, Cond.selects RX12 yX12_clears2 yX12_clears2, Cond.code yX12_clears2 cX12_clears2 2 none, Cond.methodLink RL 78 yX11_back, Cond.instanceMethod yX11_back, Cond.selects RX11 yX11_back yX11_back, Cond.code yX11_back cX11_back 1 (some .int), Cond.methodLink RX11 214 yX8_goBack, Cond.instanceMethod yX8_goBack, Cond.selects RX8 yX8_goBack yX8_goBack, Cond.code yX8_goBack cX8_goBack 2 (some .boolean), Cond.fieldLink RX8 30 "FollowingRefs$Rows" "made" "I", Cond.methodLink RL 81 yX12_back, Cond.instanceMethod yX12_back, Cond.selects RX12 yX12_back yX12_back, Cond.code yX12_back cX12_back 1 (some .int), Cond.methodLink RX12 480 yX12_backs, Cond.instanceMethod yX12_backs, Cond.selects RX12 yX12_backs yX12_backs, Cond.code yX12_backs cX12_backs 2 none, Cond.methodLink RL 82 yX11_undo, Cond.instanceMethod yX11_undo, Cond.selects RX11 yX11_undo yX11_undo, Cond.code yX11_undo cX11_undo 2 (some .int)]
def wsL_law0_r52 : List Cond := [Cond.methodLink RL 85 yX12_undo, Cond.instanceMethod yX12_undo, Cond.selects RX12 yX12_undo yX12_undo, Cond.code yX12_undo cX12_undo 2 (some .int), Cond.methodLink RL 86 yX11_now, Cond.instanceMethod yX11_now, Cond.selects RX11 yX11_now yX11_now, Cond.code yX11_now cX11_now 2 (some .int), Cond.fieldLink RX11 222 "FollowingRefs$Rows" "n" "I", Cond.fieldLink RX11 225 "FollowingRefs$Rows" "made" "I", Cond.methodLink RL 89 yX12_now, Cond.instanceMethod yX12_now, Cond.selects RX12 yX12_now yX12_now, Cond.code yX12_now cX12_now 2 (some .int), Cond.methodLink RX12 486 yX12_violationsNow, Cond.instanceMethod yX12_violationsNow, Cond.selects RX12 yX12_violationsNow yX12_violationsNow, Cond.code yX12_violationsNow cX12_violationsNow 1 (some .int), Cond.methodLink RL 90 yX11_rows, Cond.instanceMethod yX11_rows, Cond.selects RX11 yX11_rows yX11_rows, Cond.code yX11_rows cX11_rows 2 (some .int), Cond.fieldLink RX11 228 "FollowingRefs$Schema" "tables" "I", Cond.methodLink RX11 231 yX3_countOf]
def wsL_law0_r53 : List Cond := [Cond.instanceMethod yX3_countOf, Cond.selects RX3 yX3_countOf yX3_countOf, Cond.code yX3_countOf cX3_countOf 4 (some .int), Cond.methodLink RL 93 yX12_rows, Cond.instanceMethod yX12_rows, Cond.selects RX12 yX12_rows yX12_rows, Cond.code yX12_rows cX12_rows 4 (some .int), Cond.methodLink RX12 317 yX12_isTable, Cond.instanceMethod yX12_isTable, Cond.selects RX12 yX12_isTable yX12_isTable, Cond.code yX12_isTable cX12_isTable 2 (some .boolean), Cond.methodLink RL 94 yX11_row, Cond.instanceMethod yX11_row, Cond.selects RX11 yX11_row yX11_row, Cond.code yX11_row cX11_row 3 (some .int), Cond.methodLink RX11 235 yX3_numberOf, Cond.instanceMethod yX3_numberOf, Cond.selects RX3 yX3_numberOf yX3_numberOf, Cond.code yX3_numberOf cX3_numberOf 5 (some .int), Cond.methodLink RL 97 yX12_row, Cond.instanceMethod yX12_row, Cond.selects RX12 yX12_row yX12_row, Cond.code yX12_row cX12_row 5 (some .int), Cond.methodLink RL 98 yX11_tableOf]
def wsL_law0_r54 : List Cond := [Cond.instanceMethod yX11_tableOf, Cond.selects RX11 yX11_tableOf yX11_tableOf, Cond.code yX11_tableOf cX11_tableOf 2 (some .int), Cond.methodLink RX11 238 yX3_slotOf, Cond.instanceMethod yX3_slotOf, Cond.selects RX3 yX3_slotOf yX3_slotOf, Cond.code yX3_slotOf cX3_slotOf 3 (some .int), Cond.methodLink RX11 241 yX3_tableAt, Cond.methodLink RL 101 yX12_tableOf, Cond.instanceMethod yX12_tableOf, Cond.selects RX12 yX12_tableOf yX12_tableOf, Cond.code yX12_tableOf cX12_tableOf 2 (some .int), Cond.methodLink RX12 489 yX12_isRow, Cond.instanceMethod yX12_isRow, Cond.selects RX12 yX12_isRow yX12_isRow, Cond.code yX12_isRow cX12_isRow 2 (some .boolean), Cond.methodLink RL 102 yL_cell, Cond.static yL_cell, Cond.initialized RL, Cond.codeWith yL_cell cL_cell 5 (some .int) [(0, 10, 13, 13)], Cond.classLink RL 13 "java/util/NoSuchElementException", Cond.methodLink RL 7 yX11_cell, Cond.instanceMethod yX11_cell, Cond.selects RX11 yX11_cell yX11_cell]
def wsL_law0_r55 : List Cond := [Cond.code yX11_cell cX11_cell 4 (some .int), Cond.classLink RX11 247 "java/util/NoSuchElementException", Cond.initialized "java/util/NoSuchElementException", Cond.methodLink RX11 244 yX4_width, Cond.methodLink RX11 250 yX3_value, Cond.methodLink RL 107 yX12_cell, Cond.instanceMethod yX12_cell, Cond.selects RX12 yX12_cell yX12_cell, Cond.code yX12_cell cX12_cell 3 (some .int), Cond.methodLink RX12 492 yX12_isCol, Cond.instanceMethod yX12_isCol, Cond.selects RX12 yX12_isCol yX12_isCol, Cond.code yX12_isCol cX12_isCol 3 (some .boolean), Cond.methodLink RX12 495 yX12_throwsIf, Cond.instanceMethod yX12_throwsIf, Cond.selects RX12 yX12_throwsIf yX12_throwsIf, Cond.code yX12_throwsIf cX12_throwsIf 2 (some .boolean), Cond.methodLink RL 108 yX12_thrown, Cond.instanceMethod yX12_thrown, Cond.selects RX12 yX12_thrown yX12_thrown, Cond.code yX12_thrown cX12_thrown 1 (some .int), Cond.methodLink RL 111 yX11_refers, Cond.instanceMethod yX11_refers, Cond.selects RX11 yX11_refers yX11_refers]
def wsL_law0_r56 : List Cond := [Cond.code yX11_refers cX11_refers 4 (some .int), Cond.fieldLink RX11 253 "FollowingRefs$Schema" "refs" "I", Cond.methodLink RX11 256 yX3_aim, Cond.methodLink RX11 260 yX3_numberAt, Cond.methodLink RL 114 yX12_refers, Cond.instanceMethod yX12_refers, Cond.selects RX12 yX12_refers yX12_refers, Cond.code yX12_refers cX12_refers 3 (some .int), Cond.methodLink RL 115 yX11_referred, Cond.instanceMethod yX11_referred, Cond.selects RX11 yX11_referred yX11_referred, Cond.code yX11_referred cX11_referred 3 (some .int), Cond.methodLink RX11 263 yX3_referring, Cond.instanceMethod yX3_referring, Cond.selects RX3 yX3_referring yX3_referring, Cond.code yX3_referring cX3_referring 6 (some .int), Cond.fieldLink RX3 65 "FollowingRefs$Schema" "refs" "I", Cond.methodLink RX3 68 yX3_aim, Cond.methodLink RL 118 yX12_referred, Cond.instanceMethod yX12_referred, Cond.selects RX12 yX12_referred yX12_referred, Cond.code yX12_referred cX12_referred 2 (some .int), Cond.methodLink RX12 499 yX12_referredTo, Cond.instanceMethod yX12_referredTo]
def wsL_law0_r57 : List Cond := [Cond.selects RX12 yX12_referredTo yX12_referredTo, Cond.code yX12_referredTo cX12_referredTo 5 (some .int), Cond.methodLink RL 119 yX11_table, Cond.instanceMethod yX11_table, Cond.selects RX11 yX11_table yX11_table, Cond.code yX11_table cX11_table 3 (some .int), Cond.methodLink RX11 267 yX4_keysOf, Cond.instanceMethod yX4_keysOf, Cond.selects RX4 yX4_keysOf yX4_keysOf, Cond.code yX4_keysOf cX4_keysOf 4 (some .int), Cond.methodLink RX11 270 yX4_refsBy, Cond.instanceMethod yX4_refsBy, Cond.selects RX4 yX4_refsBy yX4_refsBy, Cond.code yX4_refsBy cX4_refsBy 5 (some .int), Cond.methodLink RX4 94 yX4_refPart, Cond.methodLink RX11 273 yX4_perils, Cond.instanceMethod yX4_perils, Cond.selects RX4 yX4_perils yX4_perils, Cond.code yX4_perils cX4_perils 6 (some .int), Cond.methodLink RL 122 yX12_table, Cond.instanceMethod yX12_table, Cond.selects RX12 yX12_table yX12_table, Cond.code yX12_table cX12_table 7 (some .int), Cond.methodLink RX12 505 yX12_perils]
def wsL_law0_r58 : List Cond := [Cond.instanceMethod yX12_perils, Cond.selects RX12 yX12_perils yX12_perils, Cond.code yX12_perils cX12_perils 5 (some .int), Cond.methodLink RX12 502 yX12_bitOf, Cond.static yX12_bitOf, Cond.code yX12_bitOf cX12_bitOf 2 (some .boolean), Cond.methodLink RL 123 yL_col, Cond.static yL_col, Cond.codeWith yL_col cL_col 6 (some .int) [(0, 12, 15, 13)], Cond.methodLink RL 15 yX11_col, Cond.instanceMethod yX11_col, Cond.selects RX11 yX11_col yX11_col, Cond.code yX11_col cX11_col 4 (some .int), Cond.methodLink RX11 276 yX4_has, Cond.methodLink RX11 280 yX4_defaultOf, Cond.methodLink RX11 283 yX4_needed, Cond.methodLink RX11 286 yX4_keysWith, Cond.methodLink RX11 289 yX4_refsWith, Cond.instanceMethod yX4_refsWith, Cond.selects RX4 yX4_refsWith yX4_refsWith, Cond.code yX4_refsWith cX4_refsWith 5 (some .int), Cond.methodLink RL 126 yX12_col, Cond.instanceMethod yX12_col, Cond.selects RX12 yX12_col yX12_col]
def wsL_law0_r59 : List Cond := [Cond.code yX12_col cX12_col 7 (some .int), Cond.methodLink RL 127 yX11_ref, Cond.instanceMethod yX11_ref, Cond.selects RX11 yX11_ref yX11_ref, Cond.code yX11_ref cX11_ref 3 (some .int), Cond.methodLink RX11 292 yX4_refPart, Cond.methodLink RL 130 yX12_ref, Cond.instanceMethod yX12_ref, Cond.selects RX12 yX12_ref yX12_ref, Cond.code yX12_ref cX12_ref 3 (some .int), Cond.methodLink RL 131 yX11_order, Cond.instanceMethod yX11_order, Cond.selects RX11 yX11_order yX11_order, Cond.code yX11_order cX11_order 2 (some .int), Cond.fieldLink RX11 299 "FollowingRefs" "orderPacked" "I", Cond.fieldLink RX11 302 "FollowingRefs" "orderLength" "I", Cond.methodLink RX11 295 yX4_packedOrder, Cond.instanceMethod yX4_packedOrder, Cond.selects RX4 yX4_packedOrder yX4_packedOrder, Cond.code yX4_packedOrder cX4_packedOrder 6 (some .int), Cond.methodLink RX4 97 yX4_othersOf, Cond.instanceMethod yX4_othersOf, Cond.selects RX4 yX4_othersOf yX4_othersOf, Cond.code yX4_othersOf cX4_othersOf 4 (some .int)]
def wsL_law0_r60 : List Cond := [Cond.methodLink RL 134 yX12_order, Cond.instanceMethod yX12_order, Cond.selects RX12 yX12_order yX12_order, Cond.code yX12_order cX12_order 4 (some .int), Cond.methodLink RX12 508 yX12_isFree, Cond.instanceMethod yX12_isFree, Cond.selects RX12 yX12_isFree yX12_isFree, Cond.code yX12_isFree cX12_isFree 5 (some .boolean), Cond.methodLink RL 135 yX11_orderAt, Cond.instanceMethod yX11_orderAt, Cond.selects RX11 yX11_orderAt yX11_orderAt, Cond.code yX11_orderAt cX11_orderAt 2 (some .int), Cond.methodLink RL 138 yX12_orderAt, Cond.instanceMethod yX12_orderAt, Cond.selects RX12 yX12_orderAt yX12_orderAt, Cond.code yX12_orderAt cX12_orderAt 2 (some .int), Cond.methodLink RL 139 yL_mean, Cond.static yL_mean, Cond.codeWith yL_mean cL_mean 6 (some .int) [(0, 12, 15, 13)], Cond.methodLink RL 19 yX11_mean, Cond.instanceMethod yX11_mean, Cond.selects RX11 yX11_mean yX11_mean, Cond.code yX11_mean cX11_mean 8 (some .int), Cond.methodLink RX11 305 yX3_countIn]
def wsL_law0_r61 : List Cond := [Cond.instanceMethod yX3_countIn, Cond.selects RX3 yX3_countIn yX3_countIn, Cond.code yX3_countIn cX3_countIn 5 (some .int), Cond.methodLink RX11 308 yX3_sumIn, Cond.instanceMethod yX3_sumIn, Cond.selects RX3 yX3_sumIn yX3_sumIn, Cond.code yX3_sumIn cX3_sumIn 5 (some .int), Cond.methodLink RX11 311 yX11_commonDivisor, Cond.static yX11_commonDivisor, Cond.code yX11_commonDivisor cX11_commonDivisor 6 (some .int), Cond.methodLink RL 141 yX12_mean, Cond.instanceMethod yX12_mean, Cond.selects RX12 yX12_mean yX12_mean, Cond.code yX12_mean cX12_mean 9 (some .int), Cond.methodLink RL 142 yX11_tag, Cond.instanceMethod yX11_tag, Cond.selects RX11 yX11_tag yX11_tag, Cond.code yX11_tag cX11_tag 5 (some .int), Cond.fieldLink RX11 314 "FollowingRefs" "tagLength" "I", Cond.methodLink RX11 317 yX4_name, Cond.methodLink RX11 321 yX11_writeWord, Cond.instanceMethod yX11_writeWord, Cond.selects RX11 yX11_writeWord yX11_writeWord, Cond.code yX11_writeWord cX11_writeWord 5 none]
def wsL_law0_r62 : List Cond := [Cond.methodLink RX11 325 yX11_writeByte, Cond.instanceMethod yX11_writeByte, Cond.selects RX11 yX11_writeByte yX11_writeByte, Cond.code yX11_writeByte cX11_writeByte 2 none, Cond.methodLink RX11 328 yX11_writeNumber, Cond.instanceMethod yX11_writeNumber, Cond.selects RX11 yX11_writeNumber yX11_writeNumber, Cond.code yX11_writeNumber cX11_writeNumber 2 none, Cond.methodLink RL 145 yX12_tag, Cond.instanceMethod yX12_tag, Cond.selects RX12 yX12_tag yX12_tag, Cond.code yX12_tag cX12_tag 3 (some .int), Cond.fieldLink RX12 511 "FollowingRefsModel" "textMany" "I", Cond.methodLink RX12 519 yX12_spells, Cond.instanceMethod yX12_spells, Cond.selects RX12 yX12_spells yX12_spells, Cond.code yX12_spells cX12_spells 4 none, Cond.constantLong RX12 514 (255), Cond.methodLink RX12 516 yX12_lays, Cond.instanceMethod yX12_lays, Cond.selects RX12 yX12_lays yX12_lays, Cond.code yX12_lays cX12_lays 2 none, Cond.methodLink RX12 523 yX12_laysNumber, Cond.instanceMethod yX12_laysNumber]
def wsL_law0_r63 : List Cond := [Cond.selects RX12 yX12_laysNumber yX12_laysNumber, Cond.code yX12_laysNumber cX12_laysNumber 2 none, Cond.methodLink RL 146 yX11_byteAt, Cond.instanceMethod yX11_byteAt, Cond.selects RX11 yX11_byteAt yX11_byteAt, Cond.code yX11_byteAt cX11_byteAt 2 (some .int), Cond.methodLink RL 149 yX12_byteAt, Cond.instanceMethod yX12_byteAt, Cond.selects RX12 yX12_byteAt yX12_byteAt, Cond.code yX12_byteAt cX12_byteAt 2 (some .int), Cond.methodLink RL 150 yX11_drawn, Cond.instanceMethod yX11_drawn, Cond.selects RX11 yX11_drawn yX11_drawn, Cond.code yX11_drawn cX11_drawn 6 (some .int), Cond.fieldLink RX11 331 "FollowingRefs" "dice" "I", Cond.methodLink RX11 334 yX11_drawLine, Cond.instanceMethod yX11_drawLine, Cond.selects RX11 yX11_drawLine yX11_drawLine, Cond.code yX11_drawLine cX11_drawLine 7 none, Cond.methodLink RX11 344 yX11_draw, Cond.instanceMethod yX11_draw, Cond.selects RX11 yX11_draw yX11_draw, Cond.code yX11_draw cX11_draw 2 (some .int), Cond.constant RX11 354 (1103515245)]
def wsL_law0_r64 : List Cond := [Cond.methodLink RX11 347 yX2_startLine, Cond.methodLink RX11 340 yX2_setPart, Cond.methodLink RX11 350 yX2_addCond, Cond.methodLink RX11 337 yX11_runLine, Cond.instanceMethod yX11_runLine, Cond.selects RX11 yX11_runLine yX11_runLine, Cond.code yX11_runLine cX11_runLine 3 (some .int), Cond.methodLink RX11 365 yX2_part, Cond.methodLink RL 153 yX12_drawn, Cond.instanceMethod yX12_drawn, Cond.selects RX12 yX12_drawn yX12_drawn, Cond.code yX12_drawn cX12_drawn 5 (some .int), Cond.fieldLink RX12 526 "FollowingRefsModel" "seed" "I", Cond.methodLink RX12 537 yX12_drawDeed, Cond.instanceMethod yX12_drawDeed, Cond.selects RX12 yX12_drawDeed yX12_drawDeed, Cond.code yX12_drawDeed cX12_drawDeed 3 (some .boolean), Cond.methodLink RX12 530 yX12_draw, Cond.instanceMethod yX12_draw, Cond.selects RX12 yX12_draw yX12_draw, Cond.code yX12_draw cX12_draw 2 (some .int), Cond.constant RX12 529 (1103515245), Cond.methodLink RX12 533 yX12_drawsLine, Cond.instanceMethod yX12_drawsLine]
def wsL_law0_r65 : List Cond := [Cond.selects RX12 yX12_drawsLine yX12_drawsLine, Cond.code yX12_drawsLine cX12_drawsLine 5 none, Cond.methodLink RL 154 yX11_book, Cond.instanceMethod yX11_book, Cond.selects RX11 yX11_book yX11_book, Cond.code yX11_book cX11_book 6 (some .int), Cond.fieldLink RX11 358 "FollowingRefs$Lines" "count" "I", Cond.methodLink RX11 355 yX2_readBook, Cond.instanceMethod yX2_readBook, Cond.selects RX2 yX2_readBook yX2_readBook, Cond.code yX2_readBook cX2_readBook 3 (some .boolean), Cond.methodLink RX2 65 yX9_take, Cond.methodLink RX11 361 yX11_put, Cond.methodLink RL 157 yX12_book, Cond.instanceMethod yX12_book, Cond.selects RX12 yX12_book yX12_book, Cond.code yX12_book cX12_book 4 (some .int), Cond.fieldLink RX12 540 "FollowingRefsModel" "bookMany" "I", Cond.fieldLink RX12 549 "FollowingRefsModel" "hasTold" "Z", Cond.methodLink RX12 543 yX12_bookLine, Cond.instanceMethod yX12_bookLine, Cond.selects RX12 yX12_bookLine yX12_bookLine, Cond.code yX12_bookLine cX12_bookLine 3 (some .boolean), Cond.methodLink RX12 546 yX12_does]
def wsL_law0_r66 : List Cond := [Cond.instanceMethod yX12_does, Cond.selects RX12 yX12_does yX12_does, Cond.code yX12_does cX12_does 4 (some .int), Cond.methodLink RL 158 yX11_told, Cond.instanceMethod yX11_told, Cond.selects RX11 yX11_told yX11_told, Cond.code yX11_told cX11_told 2 (some .int), Cond.methodLink RL 161 yX12_told, Cond.instanceMethod yX12_told, Cond.selects RX12 yX12_told yX12_told, Cond.code yX12_told cX12_told 2 (some .int), Cond.methodLink RL 162 yX11_sentence, Cond.instanceMethod yX11_sentence, Cond.selects RX11 yX11_sentence yX11_sentence, Cond.code yX11_sentence cX11_sentence 2 (some .int), Cond.fieldLink RX11 371 "FollowingRefs$SentenceReader" "draft" "LFollowingRefs$Sentence;", Cond.fieldLink RX11 376 "FollowingRefs$Sentence" "ones" "I", Cond.methodLink RX11 368 yX7_readSentence, Cond.instanceMethod yX7_readSentence, Cond.selects RX7 yX7_readSentence yX7_readSentence, Cond.code yX7_readSentence cX7_readSentence 1 (some .boolean), Cond.fieldLink RX7 29 "FollowingRefs$Sentence" "there" "Z", Cond.fieldLink RX7 43 "FollowingRefs$Text" "kind" "I", Cond.methodLink RX7 26 yX6_reset]
def wsL_law0_r67 : List Cond := [Cond.methodLink RX7 33 yX9_start, Cond.methodLink RX7 39 yX7_readCond, Cond.instanceMethod yX7_readCond, Cond.selects RX7 yX7_readCond yX7_readCond, Cond.code yX7_readCond cX7_readCond 4 (some .boolean), Cond.methodLink RX7 50 yX7_readAll, Cond.instanceMethod yX7_readAll, Cond.selects RX7 yX7_readAll yX7_readAll, Cond.methodLink RX7 53 yX9_option, Cond.methodLink RX7 56 yX6_add, Cond.instanceMethod yX6_add, Cond.selects RX6 yX6_add yX6_add, Cond.code yX6_add cX6_add 4 none, Cond.code yX7_readAll cX7_readAll 4 (some .boolean), Cond.methodLink RX7 60 yX7_readOne, Cond.instanceMethod yX7_readOne, Cond.selects RX7 yX7_readOne yX7_readOne, Cond.code yX7_readOne cX7_readOne 5 (some .boolean), Cond.fieldLink RX7 66 "FollowingRefs$Text" "held" "J", Cond.fieldLink RX7 74 "FollowingRefs$Sentence" "ones" "I", Cond.methodLink RX7 63 yX7_startsOne, Cond.static yX7_startsOne, Cond.code yX7_startsOne cX7_startsOne 1 (some .boolean), Cond.methodLink RX7 47 yX9_fail]
def wsL_law0_r68 : List Cond := [Cond.methodLink RX7 70 yX6_colsNamed, Cond.static yX6_colsNamed, Cond.code yX6_colsNamed cX6_colsNamed 5 (some .int), Cond.fieldLink RX6 81 "FollowingRefs$Schema" "tables" "I", Cond.methodLink RX6 84 yX4_colNamed, Cond.methodLink RX7 77 yX9_step, Cond.methodLink RX7 80 yX9_take, Cond.methodLink RX7 83 yX9_takeTable, Cond.methodLink RX7 87 yX7_readComparison, Cond.instanceMethod yX7_readComparison, Cond.selects RX7 yX7_readComparison yX7_readComparison, Cond.code yX7_readComparison cX7_readComparison 4 (some .boolean), Cond.methodLink RX7 90 yX9_takeComparison, Cond.methodLink RX7 94 yX9_takeNumber, Cond.methodLink RX11 373 yX6_copyFrom, Cond.instanceMethod yX6_copyFrom, Cond.selects RX6 yX6_copyFrom yX6_copyFrom, Cond.code yX6_copyFrom cX6_copyFrom 2 none, Cond.methodLink RL 165 yX12_sentence, Cond.instanceMethod yX12_sentence, Cond.selects RX12 yX12_sentence yX12_sentence, Cond.code yX12_sentence cX12_sentence 3 (some .int), Cond.fieldLink RX12 552 "FollowingRefsModel" "codes" "I", Cond.fieldLink RX12 570 "FollowingRefsModel" "ones" "I"]
def wsL_law0_r69 : List Cond := [Cond.fieldLink RX12 555 "FollowingRefsModel" "top" "I", Cond.fieldLink RX12 561 "FollowingRefsModel" "deep" "I", Cond.fieldLink RX12 573 "FollowingRefsModel" "isWhole" "Z", Cond.methodLink RX12 576 yX12_nots, Cond.instanceMethod yX12_nots, Cond.selects RX12 yX12_nots yX12_nots, Cond.code yX12_nots cX12_nots 1 none, Cond.methodLink RX12 558 yX12_code, Cond.instanceMethod yX12_code, Cond.selects RX12 yX12_code yX12_code, Cond.code yX12_code cX12_code 4 none, Cond.methodLink RX12 579 yX12_joins, Cond.instanceMethod yX12_joins, Cond.selects RX12 yX12_joins yX12_joins, Cond.code yX12_joins cX12_joins 2 none, Cond.methodLink RX12 582 yX12_behind, Cond.instanceMethod yX12_behind, Cond.selects RX12 yX12_behind yX12_behind, Cond.code yX12_behind cX12_behind 1 (some .boolean), Cond.methodLink RX12 585 yX12_operand, Cond.instanceMethod yX12_operand, Cond.selects RX12 yX12_operand yX12_operand, Cond.code yX12_operand cX12_operand 5 (some .boolean), Cond.methodLink RX12 567 yX12_leafOf]
def wsL_law0_r70 : List Cond := [Cond.instanceMethod yX12_leafOf, Cond.selects RX12 yX12_leafOf yX12_leafOf, Cond.code yX12_leafOf cX12_leafOf 1 (some .int), Cond.methodLink RX12 564 yX12_packOf, Cond.instanceMethod yX12_packOf, Cond.selects RX12 yX12_packOf yX12_packOf, Cond.code yX12_packOf cX12_packOf 3 (some .int), Cond.methodLink RL 166 yX11_said, Cond.instanceMethod yX11_said, Cond.selects RX11 yX11_said yX11_said, Cond.code yX11_said cX11_said 4 (some .int), Cond.fieldLink RX11 379 "FollowingRefs$Sentence" "there" "Z", Cond.methodLink RX11 382 yX6_holds, Cond.instanceMethod yX6_holds, Cond.selects RX6 yX6_holds yX6_holds, Cond.code yX6_holds cX6_holds 8 (some .boolean), Cond.methodLink RX6 38 yX6_holdsOne, Cond.instanceMethod yX6_holdsOne, Cond.selects RX6 yX6_holdsOne yX6_holdsOne, Cond.code yX6_holdsOne cX6_holdsOne 11 (some .boolean), Cond.methodLink RX6 42 yX3_tableAt, Cond.methodLink RX6 48 yX6_isBare, Cond.static yX6_isBare, Cond.code yX6_isBare cX6_isBare 4 (some .boolean)]
def wsL_law0_r71 : List Cond := [Cond.methodLink RX6 76 yX4_width, Cond.methodLink RX6 73 yX3_value, Cond.methodLink RX6 52 yX3_referring, Cond.methodLink RX6 56 yX3_numberAt, Cond.methodLink RX6 59 yX10_tellsOf, Cond.instanceMethod yX10_tellsOf, Cond.selects RX10 yX10_tellsOf yX10_tellsOf, Cond.code yX10_tellsOf cX10_tellsOf 3 (some .boolean), Cond.methodLink RX6 69 yX6_colOf, Cond.static yX6_colOf, Cond.code yX6_colOf cX6_colOf 2 (some .int), Cond.methodLink RL 169 yX12_said, Cond.instanceMethod yX12_said, Cond.selects RX12 yX12_said yX12_said, Cond.code yX12_said cX12_said 4 (some .int), Cond.methodLink RX12 597 yX12_isSaid, Cond.instanceMethod yX12_isSaid, Cond.selects RX12 yX12_isSaid yX12_isSaid, Cond.code yX12_isSaid cX12_isSaid 5 (some .boolean), Cond.methodLink RX12 594 yX12_isLeaf, Cond.instanceMethod yX12_isLeaf, Cond.selects RX12 yX12_isLeaf yX12_isLeaf, Cond.code yX12_isLeaf cX12_isLeaf 7 (some .boolean), Cond.methodLink RX12 588 yX12_isBare]
def wsL_law0_r72 : List Cond := [Cond.instanceMethod yX12_isBare, Cond.selects RX12 yX12_isBare yX12_isBare, Cond.code yX12_isBare cX12_isBare 4 (some .boolean), Cond.methodLink RX12 591 yX12_isBroken, Cond.instanceMethod yX12_isBroken, Cond.selects RX12 yX12_isBroken yX12_isBroken, Cond.code yX12_isBroken cX12_isBroken 4 (some .boolean), Cond.methodLink RL 170 yX11_image, Cond.instanceMethod yX11_image, Cond.selects RX11 yX11_image yX11_image, Cond.code yX11_image cX11_image 3 (some .boolean), Cond.fieldLink RX11 390 "FollowingRefs$Image" "kept" "Z", Cond.fieldLink RX11 393 "FollowingRefs$Image" "plan" "LFollowingRefs$Schema;", Cond.fieldLink RX11 394 "FollowingRefs$Image" "state" "LFollowingRefs$State;", Cond.fieldLink RX11 395 "FollowingRefs$Image" "sentence" "LFollowingRefs$Sentence;", Cond.methodLink RX11 386 yX11_imageIn, Cond.instanceMethod yX11_imageIn, Cond.selects RX11 yX11_imageIn yX11_imageIn, Cond.code yX11_imageIn cX11_imageIn 2 (some (.object "FollowingRefs$Image")), Cond.methodLink RL 173 yX12_image, Cond.instanceMethod yX12_image, Cond.selects RX12 yX12_image yX12_image, Cond.code yX12_image cX12_image 3 (some .boolean), Cond.methodLink RL 174 yX11_restore]
def wsL_law0_r73 : List Cond := [Cond.instanceMethod yX11_restore, Cond.selects RX11 yX11_restore yX11_restore, Cond.code yX11_restore cX11_restore 3 (some .boolean), Cond.methodLink RL 177 yX12_restore, Cond.instanceMethod yX12_restore, Cond.selects RX12 yX12_restore yX12_restore, Cond.code yX12_restore cX12_restore 3 (some .boolean), Cond.methodLink RL 178 yX11_count, Cond.instanceMethod yX11_count, Cond.selects RX11 yX11_count yX11_count, Cond.code yX11_count cX11_count 2 (some .int), Cond.fieldLink RX11 398 "FollowingRefs$Schema" "keys" "I", Cond.fieldLink RX11 401 "FollowingRefs$Schema" "checks" "I", Cond.methodLink RL 181 yX12_count, Cond.instanceMethod yX12_count, Cond.selects RX12 yX12_count yX12_count, Cond.code yX12_count cX12_count 2 (some .int)]
def wsL_law0 : List Cond := (wsL_law0_r1 ++ (wsL_law0_r2 ++ (wsL_law0_r3 ++ (wsL_law0_r4 ++ (wsL_law0_r5 ++ (wsL_law0_r6 ++ (wsL_law0_r7 ++ (wsL_law0_r8 ++ (wsL_law0_r9 ++ (wsL_law0_r10 ++ (wsL_law0_r11 ++ (wsL_law0_r12 ++ (wsL_law0_r13 ++ (wsL_law0_r14 ++ (wsL_law0_r15 ++ (wsL_law0_r16 ++ (wsL_law0_r17 ++ (wsL_law0_r18 ++ (wsL_law0_r19 ++ (wsL_law0_r20 ++ (wsL_law0_r21 ++ (wsL_law0_r22 ++ (wsL_law0_r23 ++ (wsL_law0_r24 ++ (wsL_law0_r25 ++ (wsL_law0_r26 ++ (wsL_law0_r27 ++ (wsL_law0_r28 ++ (wsL_law0_r29 ++ (wsL_law0_r30 ++ (wsL_law0_r31 ++ (wsL_law0_r32 ++ (wsL_law0_r33 ++ (wsL_law0_r34 ++ (wsL_law0_r35 ++ (wsL_law0_r36 ++ (wsL_law0_r37 ++ (wsL_law0_r38 ++ (wsL_law0_r39 ++ (wsL_law0_r40 ++ (wsL_law0_r41 ++ (wsL_law0_r42 ++ (wsL_law0_r43 ++ (wsL_law0_r44 ++ (wsL_law0_r45 ++ (wsL_law0_r46 ++ (wsL_law0_r47 ++ (wsL_law0_r48 ++ (wsL_law0_r49 ++ (wsL_law0_r50 ++ (wsL_law0_r51 ++ (wsL_law0_r52 ++ (wsL_law0_r53 ++ (wsL_law0_r54 ++ (wsL_law0_r55 ++ (wsL_law0_r56 ++ (wsL_law0_r57 ++ (wsL_law0_r58 ++ (wsL_law0_r59 ++ (wsL_law0_r60 ++ (wsL_law0_r61 ++ (wsL_law0_r62 ++ (wsL_law0_r63 ++ (wsL_law0_r64 ++ (wsL_law0_r65 ++ (wsL_law0_r66 ++ (wsL_law0_r67 ++ (wsL_law0_r68 ++ (wsL_law0_r69 ++ (wsL_law0_r70 ++ (wsL_law0_r71 ++ (wsL_law0_r72 ++ wsL_law0_r73)))))))))))))))))))))))))))))))))))))))))))))))))))))))))))))))))))))))) ++ wsX110 ++ wsX120 ++ wsX90 ++ wsX40 ++ wsX80 ++ wsX60 ++ wsX50 ++ wsX70 ++ wsX20 ++ wsX10 ++ wsX00 ++ wsX30 ++ wsX100 ++ ([] : List Cond)
def wsL_law : List Cond := wsL_law0 ++ (vx_at0 RX11 249 "java/util/NoSuchElementException" ["java/lang/RuntimeException", "java/lang/Exception"]).filter goodWord
theorem inlX0 : ∀ w ∈ wsX00, w ∈ wsL_law := fun _ h => List.mem_append_left _ (List.mem_append_left _ (List.mem_append_left _ (List.mem_append_left _ (List.mem_append_right _ h))))
theorem inlX1 : ∀ w ∈ wsX10, w ∈ wsL_law := fun _ h => List.mem_append_left _ (List.mem_append_left _ (List.mem_append_left _ (List.mem_append_left _ (List.mem_append_left _ (List.mem_append_right _ h)))))
theorem inlX2 : ∀ w ∈ wsX20, w ∈ wsL_law := fun _ h => List.mem_append_left _ (List.mem_append_left _ (List.mem_append_left _ (List.mem_append_left _ (List.mem_append_left _ (List.mem_append_left _ (List.mem_append_right _ h))))))
theorem inlX3 : ∀ w ∈ wsX30, w ∈ wsL_law := fun _ h => List.mem_append_left _ (List.mem_append_left _ (List.mem_append_left _ (List.mem_append_right _ h)))
theorem inlX4 : ∀ w ∈ wsX40, w ∈ wsL_law := fun _ h => List.mem_append_left _ (List.mem_append_left _ (List.mem_append_left _ (List.mem_append_left _ (List.mem_append_left _ (List.mem_append_left _ (List.mem_append_left _ (List.mem_append_left _ (List.mem_append_left _ (List.mem_append_left _ (List.mem_append_left _ (List.mem_append_right _ h)))))))))))
theorem inlX5 : ∀ w ∈ wsX50, w ∈ wsL_law := fun _ h => List.mem_append_left _ (List.mem_append_left _ (List.mem_append_left _ (List.mem_append_left _ (List.mem_append_left _ (List.mem_append_left _ (List.mem_append_left _ (List.mem_append_left _ (List.mem_append_right _ h))))))))
theorem inlX6 : ∀ w ∈ wsX60, w ∈ wsL_law := fun _ h => List.mem_append_left _ (List.mem_append_left _ (List.mem_append_left _ (List.mem_append_left _ (List.mem_append_left _ (List.mem_append_left _ (List.mem_append_left _ (List.mem_append_left _ (List.mem_append_left _ (List.mem_append_right _ h)))))))))
theorem inlX7 : ∀ w ∈ wsX70, w ∈ wsL_law := fun _ h => List.mem_append_left _ (List.mem_append_left _ (List.mem_append_left _ (List.mem_append_left _ (List.mem_append_left _ (List.mem_append_left _ (List.mem_append_left _ (List.mem_append_right _ h)))))))
theorem inlX8 : ∀ w ∈ wsX80, w ∈ wsL_law := fun _ h => List.mem_append_left _ (List.mem_append_left _ (List.mem_append_left _ (List.mem_append_left _ (List.mem_append_left _ (List.mem_append_left _ (List.mem_append_left _ (List.mem_append_left _ (List.mem_append_left _ (List.mem_append_left _ (List.mem_append_right _ h))))))))))
theorem inlX9 : ∀ w ∈ wsX90, w ∈ wsL_law := fun _ h => List.mem_append_left _ (List.mem_append_left _ (List.mem_append_left _ (List.mem_append_left _ (List.mem_append_left _ (List.mem_append_left _ (List.mem_append_left _ (List.mem_append_left _ (List.mem_append_left _ (List.mem_append_left _ (List.mem_append_left _ (List.mem_append_left _ (List.mem_append_right _ h))))))))))))
theorem inlX10 : ∀ w ∈ wsX100, w ∈ wsL_law := fun _ h => List.mem_append_left _ (List.mem_append_left _ (List.mem_append_right _ h))
theorem inlX11 : ∀ w ∈ wsX110, w ∈ wsL_law := fun _ h => List.mem_append_left _ (List.mem_append_left _ (List.mem_append_left _ (List.mem_append_left _ (List.mem_append_left _ (List.mem_append_left _ (List.mem_append_left _ (List.mem_append_left _ (List.mem_append_left _ (List.mem_append_left _ (List.mem_append_left _ (List.mem_append_left _ (List.mem_append_left _ (List.mem_append_left _ (List.mem_append_right _ h))))))))))))))
theorem inlX12 : ∀ w ∈ wsX120, w ∈ wsL_law := fun _ h => List.mem_append_left _ (List.mem_append_left _ (List.mem_append_left _ (List.mem_append_left _ (List.mem_append_left _ (List.mem_append_left _ (List.mem_append_left _ (List.mem_append_left _ (List.mem_append_left _ (List.mem_append_left _ (List.mem_append_left _ (List.mem_append_left _ (List.mem_append_left _ (List.mem_append_right _ h)))))))))))))
abbrev vwCl : List vw_C := [(RX0, TX0, 4), (RX1, TX1, 17), (RX2, TX2, 4), (RX3, TX3, 5), (RX4, TX4, 12), (RX5, TX5, 6), (RX6, TX6, 4), (RX7, TX7, 3), (RX8, TX8, 3), (RX9, TX9, 10), (RX10, TX10, 2), (RX11, TX11, 19), (RX12, TX12, 66)]
