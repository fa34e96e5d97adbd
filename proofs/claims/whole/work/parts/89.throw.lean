/-! THROWS: `new NoSuchElementException(text)` in MemoryRows. The class's constructor of a text calls its parent's by entry 13 of its pool (not 7, as the kit's rows have it): so these rows stand here anew. -/
def xN : String := "java/util/NoSuchElementException"
def xNp : String := "java/lang/RuntimeException"
def xNs : List String := ["java/lang/Exception"]
def xRx : ByteArray := prog_17_method_4_code
theorem xRx_0 : decode xRx 0 = .ok (.aload_n 0, 1) := by decide +kernel
theorem xRx_1 : decode xRx 1 = .ok (.aload_n 1, 1) := by decide +kernel
theorem xRx_2 : decode xRx 2 = .ok (.invokespecial 13, 3) := by decide +kernel
theorem xRx_5 : decode xRx 5 = .ok (.return_, 1) := by decide +kernel
/-- the words of the throw -/
def xOwn : List Cond := Bundle.throwableAtoms ++ Bundle.throwableSAtoms ++ (Bundle.passSAtoms xN xNp 13 xRx ++ Bundle.chainSAtoms xNp xNs) ++
  [.methodLink RX7 128 (Bundle.initS xN), .instantiable xN 6, .castable xN xN, .selects xN Bundle.tFill0 Bundle.tFill0, .selects xN Bundle.tFill Bundle.tFill,
   .lays xN Bundle.tN "cause" "Ljava/lang/Throwable;", .lays xN Bundle.tN "stackTrace" Bundle.steD, .lays xN Bundle.tN "suppressedExceptions" Bundle.listD, .lays xN Bundle.tN "detailMessage" "Ljava/lang/String;",
   .isRef (.static Bundle.tN "UNASSIGNED_STACK" Bundle.steD), .isRef (.static Bundle.tN "SUPPRESSED_SENTINEL" Bundle.listD),
   .fieldLink Bundle.tN 198 Bundle.tN "backtrace" "Ljava/lang/Object;", .lays Bundle.tN Bundle.tN "backtrace" "Ljava/lang/Object;", .lays xN Bundle.tN "backtrace" "Ljava/lang/Object;"]
/-- a word that no contract takes along, but a warmed state keeps -/
def xwW : Cond → Bool
  | .declares _ => true
  | .castable _ _ => true
  | _ => false
/-- the words but four that speak of the heap; those among them that are not good -/
def xAt : List Cond := xOwn.filter vx_no
def xB : List Cond := xAt.filter (fun w => !goodWord w)
theorem xB_w : ∀ w ∈ xB, xwW w = true := by decide +kernel
theorem xB_in : ∀ w ∈ xB, w ∈ lw_tbl := by decide +kernel
theorem xG_tb : ∀ w ∈ xAt.filter goodWord, w ∈ lw_tbl := by decide +kernel
theorem xG_in : ∀ w ∈ xAt.filter goodWord, w ∈ jGW := by
  intro w hw
  exact List.mem_filter.mpr ⟨xG_tb w hw, (List.mem_filter.mp hw).2⟩
theorem xAt_ot : ∀ w ∈ Cond.classLink RX7 124 xN :: Cond.initialized xN :: xAt, vx_ot w = true := by decide +kernel
theorem xCl_in : Cond.classLink RX7 124 xN ∈ jGW := jGW_of (by decide +kernel)
theorem xIn_in : Cond.initialized xN ∈ jGW := jGW_of (by decide +kernel)
theorem xCast : Cond.castable xN xN ∈ xB := by decide +kernel
theorem xB_warm {s U : State} (hW : s.WarmedH U.vm) (h : ∀ w ∈ xB, va_Nw w s) : ∀ w ∈ xB, va_Nw w U := by
  intro w hw
  have h1 := xB_w w hw
  have h2 := h w hw
  cases w <;> first | (cases h1; done) | exact va_Nw.warmD hW h2 | exact va_Nw.warmC hW h2
theorem xB_same {s U : State} (hW : s.vm = U.vm) (h : ∀ w ∈ xB, va_Nw w s) : ∀ w ∈ xB, va_Nw w U := by
  intro w hw
  have h1 := xB_w w hw
  have h2 := h w hw
  cases w <;> first | (cases h1; done) | exact va_Nw.same rfl hW h2
section XThrow
variable {p : Program} {l : Launch} {e : Env} {R : Room} {s : State} {m : MethodId} {args : Array Value} {below : List Frame} {meth : Method} {c : Code} {W9 : State} {locs : List Loc} {cells slots : Nat}
set_option maxHeartbeats 2000000 in
/-- the constructor's call, and the throw -/
theorem x_ctor (X : Stand p l e R s m args below meth c W9 locs cells slots) (hexec : p.tables.exec = Jvm.exec) (htr : e.platform.stackTraces = false)
    (hown : s.vm.findClass RX7 = some m.cls) (h : ∀ a ∈ xOwn, a.before args s = true)
    (hlocs : ∀ x ∈ locs, ∀ cell, s.heap[x.base]? = some cell → cell.vm.isStatics = false)
    {a : Addr} {cX : ClassId} {kX : Class} (hfoundX : s.vm.findClass xN = some cX) (hkX : s.vm.classes[cX]? = some kX) (hcell : W9.heap[a]? = some (freshCell cX kX)) (hnew : s.heap.size ≤ a)
    {msg : Value} (hmsg : msg.isRef = true)
    {g : JFrame} (hg : g.method = m) (hsize : g.locals.size = c.maxLocals) (hlocked : g.locked = none) (hentered : g.entered = []) {rest : List Value} (hstack : g.stack = msg :: .ref a :: .ref a :: rest)
    (hd6 : decode c.code g.pc = .ok (.invokespecial 128, 3)) (hd9 : decode c.code (g.pc + 3) = .ok (.athrow, 1)) (hout : ∀ x ∈ c.exceptionTable.toList, covers x (g.pc + 3) = false)
    (hRframes : 5 < R.frames) (hRlocals : 2 * g.monitorRoom + ((Value.ref a :: rest).map fun v => v.category).sum + 81 ≤ R.locals) (hlocks : meth.locks = false) :
    ∃ U : State, Steps p.tables e below (W9.setTop g) U ∧ U.status = .running ∧ Ended U below (.threw a) ∧ s.WarmedH U.vm ∧ s.sameButNew ({ U with vm := s.vm } : State) locs cells slots ∧
      ∃ ce, U.heap[a]? = some ce ∧ ce.cls = cX ∧ ce.vm = .none := by
  have howns : e.platform.frameOwnsMonitors = true := by rw [X.admits.platform]
  have hfin : e.platform.finalization = false := by rw [X.admits.platform]
  have hpl : e.platform.magicAccessors = ({} : Platform).magicAccessors := by rw [X.admits.platform]
  have a' : ∀ x, x ∈ xOwn → x.holds args s none s [] = true := fun x hx => h x hx
  have hfit : Bundle.fit xN = true := by decide +kernel
  have hfitp : Bundle.fit xNp = true := by decide +kernel
  have hfits : ∀ n ∈ xNs, Bundle.fit n = true := by decide +kernel
  obtain ⟨T, Z0, L, -, Y⟩ := ThrowableC.of_atoms (args := args) howns hfin hpl (fun x hx => h x (by simp [xOwn, hx]))
  obtain ⟨Z, M, LZ, LM, hnZ⟩ := Init0T.ofS_atoms (args := args) hpl L Y (fun x hx => h x (by simp [xOwn, hx]))
  obtain ⟨P1, L1, hP1m, hs1⟩ := PassC.ofS_atoms (args := args) (s := s) hpl (X := xN) (Y := xNp) (Bundle.fit_spec hfit).1 (Bundle.fit_spec hfitp).2 xRx_0 xRx_1 xRx_2 xRx_5 (fun x hx => h x (by simp [xOwn, hx]))
  obtain ⟨P2, Ps, hlen, L2, hL, hP2m, hlink2, hlink⟩ := Bundle.chainS (args := args) hpl hnZ xNs xNp hfitp hfits (fun x hx => h x (by simp [xOwn, hx]))
  have hlink1 : P1.sup = firstOf (Z.m T.toThrowableT) ((P2 :: Ps).map (·.toPassT)) := Option.some.inj (hs1.symm.trans hP2m)
  have hfound : s.vm.findClass xN = some P1.m.cls := findClass_of_methodNamed hP1m
  cases Option.some.inj (hfoundX.symm.trans hfound)
  obtain ⟨c1, kX', hc1, hk, hord, -, -, hn6⟩ := Cond.instantiable_spec (a' (.instantiable xN 6) (by simp [xOwn]))
  cases Option.some.inj (hc1.symm.trans hfound)
  cases Option.some.inj (hkX.symm.trans hk)
  have hsel0 : selectMethod e.platform s.vm P1.m.cls T.fill0 = .method T.fill0 := by
    obtain ⟨c2, r2, m2, q1, q2, q3, q4, -⟩ := Cond.selects_spec (a' (.selects xN Bundle.tFill0 Bundle.tFill0) (by simp [xOwn]))
    cases Option.some.inj (q1.symm.trans hfound)
    cases Option.some.inj (q2.symm.trans (State.methodFound?_of_named Y.fill0 (by decide)))
    cases Option.some.inj (q3.symm.trans Y.fill0)
    rw [Launch.admits_selectMethod X.admits]; exact q4
  have hselF : selectMethod e.platform s.vm P1.m.cls T.fill = .method T.fill := by
    obtain ⟨c2, r2, m2, q1, q2, q3, q4, -⟩ := Cond.selects_spec (a' (.selects xN Bundle.tFill Bundle.tFill) (by simp [xOwn]))
    cases Option.some.inj (q1.symm.trans hfound)
    cases Option.some.inj (q2.symm.trans (State.methodFound?_of_named Y.fill (by decide)))
    cases Option.some.inj (q3.symm.trans Y.fill)
    rw [Launch.admits_selectMethod X.admits]; exact q4
  obtain ⟨cellS0, hcS0, hiss⟩ := Y.statics
  obtain ⟨u0, hu0⟩ := Cond.staticRefV Y.unassigned L.unassignedStatic L.statics hcS0 hiss (a' (.isRef (.static Bundle.tN "UNASSIGNED_STACK" Bundle.steD)) (by simp [xOwn]))
  obtain ⟨sen, hsen⟩ := Cond.staticRefV Y.sentinel L.sentinelStatic L.statics hcS0 hiss (a' (.isRef (.static Bundle.tN "SUPPRESSED_SENTINEL" Bundle.listD)) (by simp [xOwn]))
  obtain ⟨ci198, i198, fB, hk198, hg198, ha198, hsB, -, hnB, htB, hffB⟩ := Cond.ownField (t := .object "java/lang/Object") Y.found L.cls (by decide +kernel) (a' (.fieldLink Bundle.tN 198 Bundle.tN "backtrace" "Ljava/lang/Object;") (by simp [xOwn])) (a' (.lays Bundle.tN Bundle.tN "backtrace" "Ljava/lang/Object;") (by simp [xOwn])) e.platform hpl
  obtain ⟨cellS, hcS', heS, -, hkeep⟩ := X.same.2.2.2.2.2 T.aS cellS0 hcS0
  have hcellS : W9.heap[T.aS]? = some cellS := hcS'
  have hout' : ∀ i, (⟨T.aS, i⟩ : Loc) ∉ locs := fun i hmem => by
    have := hlocs _ hmem cellS0 hcS0
    rw [hiss] at this; cases this
  have hknownS : cellS.vm ≠ .unknown := by
    rw [heS]; intro hu
    rw [show cellS0.vm = .unknown from hu] at hiss
    cases hiss
  have hneS : T.aS ≠ a := Nat.ne_of_lt (Nat.lt_of_lt_of_le (Array.getElem?_eq_some_iff.mp hcS0).1 hnew)
  obtain ⟨iM, hffM⟩ := Y.msg
  obtain ⟨tyC, dC, hdC, hdnC⟩ := Cond.laysAt hfound hk Y.cause (a' (.lays xN Bundle.tN "cause" "Ljava/lang/Throwable;") (by simp [xOwn]))
  obtain ⟨tyS, dS, hdS, hdnS⟩ := Cond.laysAt hfound hk Y.stack (a' (.lays xN Bundle.tN "stackTrace" Bundle.steD) (by simp [xOwn]))
  obtain ⟨tyP, dP, hdP, hdnP⟩ := Cond.laysAt hfound hk Y.supp (a' (.lays xN Bundle.tN "suppressedExceptions" Bundle.listD) (by simp [xOwn]))
  obtain ⟨tyM, dM, hdM, hdnM⟩ := Cond.laysAt hfound hk hffM (a' (.lays xN Bundle.tN "detailMessage" "Ljava/lang/String;") (by simp [xOwn]))
  obtain ⟨tyB, dB, hdB, hdnB⟩ := Cond.laysAt hfound hk hffB (a' (.lays xN Bundle.tN "backtrace" "Ljava/lang/Object;") (by simp [xOwn]))
  have bC := Cond.laysApart hdB hdC hdnB hdnC (by rw [hnB, Y.causeName]; decide)
  have bS := Cond.laysApart hdB hdS hdnB hdnS (by rw [hnB, Y.stackName]; decide)
  have bP := Cond.laysApart hdB hdP hdnB hdnP (by rw [hnB, Y.suppName]; decide)
  have hskip : SkipFacts T e.platform s (fun u => u) u0 ((preparedCellV T.toThrowableT (freshCell P1.m.cls kX) a u0 sen).withEntry W9.cur) :=
    ⟨{ ci198 := ci198, i198 := i198, fBack := fB }, ⟨hk198, hg198, ha198, hsB⟩, by
      have := fresh_default (c := P1.m.cls) tyB
      rw [htB] at this
      simpa [preparedCellV, Cell.setSlot, Cell.withEntry, Array.getElem?_setIfInBounds, bC, bS, bP, bC.symm, bS.symm, bP.symm, defaultValue] using this, fun _ _ => rfl⟩
  obtain ⟨tm, methC, cdC, kC, vm₁, hnC, -, -, -, -, -, -, -, hW₁, st1⟩ := Steps.initColdS (tb := p.tables) (e := e) (below := below) (s := s) (U := W9) X.here hexec X.warmed hpl hown (t := Bundle.initS xN) rfl rfl (Bundle.fit_spec hfit).2
    (a' (.methodLink RX7 128 (Bundle.initS xN)) (by simp [xOwn])) (h (.instanceMethod (Bundle.initS xN)) (by simp [xOwn, Bundle.passSAtoms])) (bytes := xRx) (maxL := 2) (h (.code (Bundle.initS xN) xRx 2 none) (by simp [xOwn, Bundle.passSAtoms]))
    (f := g) hg (a := a) (msg := msg) (rest := .ref a :: rest) hstack hd6
  cases Option.some.inj (hnC.symm.trans hP1m)
  have X₁ := X.noted hW₁
  have hlen1 : Ps.length = 1 := hlen
  obtain ⟨vm₂, X₂, st2⟩ := X₁.ctorMessageOffV hexec (g := { g with stack := .ref a :: rest }) hg hsize T L Z LZ M LM (P1 :: P2 :: Ps)
    (fun P hP => by rcases List.mem_cons.mp hP with rfl | hP; exact L1; rcases List.mem_cons.mp hP with rfl | hP; exact L2; exact hL P hP) ⟨hlink1, hlink2, hlink⟩ (u0 := u0) (sen := sen) (self := a) hmsg (cell := freshCell P1.m.cls kX) (cellS := cellS)
    hcell (fun _ => by simp) (by simp) rfl rfl hsel0 hselF hcellS hneS hknownS (by rw [hkeep _ (hout' _)]; exact hu0) (by rw [hkeep _ (hout' _)]; exact hsen)
    (Takes.of_laid hk hord tyC (by rw [Y.causeType]; rfl)) (Takes.of_laid hk hord tyS (by rw [Y.stackType]; exact fits_refV_array _ u0)) (Takes.of_laid hk hord tyP (by rw [Y.suppType]; exact fits_refV_object _ sen))
    (Takes.of_laid hk hord tyM (by rw [Y.msgType]; exact fits_refV_object _ ⟨msg, hmsg⟩)) Y.objLocals hskip htr [] hd6
    (by simp only [List.length_cons, hlen1]; omega) (by simp only [List.length_cons, hlen1]; exact hRlocals)
  obtain ⟨hwalk, hrun, hended, hWU, hsame⟩ := X₂.athrowLeaves hexec (g := { g with stack := .ref a :: rest, pc := g.pc + 3 }) hg hlocked hentered hout (a := a) (rest := rest) rfl hd9
  have hlt : a < ((W9.setVm vm₁).setVm vm₂).heap.size := (Array.getElem?_eq_some_iff.mp hcell).1
  have hU := heapAt_setCell_self (s := (W9.setVm vm₁).setVm vm₂) (plainBareV T.toThrowableT (freshCell P1.m.cls kX) a u0 sen msg) hlt
  refine ⟨_, st1 _ (fun acts => ?_), hrun, hended, hWU, hsame.weaken (fun y hy hlt' => ?_) (Nat.le_refl _) (Nat.le_refl _), _, hU, rfl, rfl⟩
  · rw [doInvoke_state]
    exact st2 _ hwalk
  · rcases List.mem_append.mp hy with h1 | h1
    · exact h1
    · exfalso
      have hb : y.base = a := by
        simp only [List.mem_cons, List.not_mem_nil, or_false] at h1
        rcases h1 with rfl | rfl | rfl | rfl | rfl <;> rfl
      rw [hb] at hlt'
      exact Nat.not_lt.mpr hnew hlt'
end XThrow
