section
-- ===== PART A: goes FIRST, ahead of the names: the tables' words, and 'selects' of the private methods out of them =====
/-- a private method of a class that the tables say can be made, by its rows of tables_1 -/
def lw_okq (q : MethodName × Nat) : Prop := (q.1.cls ≠ "java/lang/invoke/MethodHandle" ∧ q.1.cls ≠ "java/lang/invoke/VarHandle") ∧ Cond.instantiable q.1.cls q.2 ∈ tables_1 ∧ Cond.privateMethod q.1 ∈ tables_1 ∧ Cond.instanceMethod q.1 ∈ tables_1
theorem lw_p0 : lw_okq (⟨"Tenonyard$Forces", "findPulls", "(LTenonyard$Frame;)C"⟩, 17) := ⟨⟨by decide +kernel, by decide +kernel⟩, List.mem_of_getElem? (i := 94) (by decide +kernel), List.mem_of_getElem? (i := 301) (by decide +kernel), List.mem_of_getElem? (i := 302) (by decide +kernel)⟩
theorem lw_p1 : lw_okq (⟨"Tenonyard$Forces", "fillRows", "(LTenonyard$Frame;)V"⟩, 17) := ⟨⟨by decide +kernel, by decide +kernel⟩, List.mem_of_getElem? (i := 94) (by decide +kernel), List.mem_of_getElem? (i := 309) (by decide +kernel), List.mem_of_getElem? (i := 310) (by decide +kernel)⟩
theorem lw_p2 : lw_okq (⟨"Tenonyard$Forces", "findDeterminants", "(I)V"⟩, 17) := ⟨⟨by decide +kernel, by decide +kernel⟩, List.mem_of_getElem? (i := 94) (by decide +kernel), List.mem_of_getElem? (i := 321) (by decide +kernel), List.mem_of_getElem? (i := 322) (by decide +kernel)⟩
theorem lw_p3 : lw_okq (⟨"Tenonyard$Forces", "expanded", "([JII)J"⟩, 17) := ⟨⟨by decide +kernel, by decide +kernel⟩, List.mem_of_getElem? (i := 94) (by decide +kernel), List.mem_of_getElem? (i := 331) (by decide +kernel), List.mem_of_getElem? (i := 332) (by decide +kernel)⟩
theorem lw_p4 : lw_okq (⟨"Tenonyard$Forces", "setPull", "(III)V"⟩, 17) := ⟨⟨by decide +kernel, by decide +kernel⟩, List.mem_of_getElem? (i := 94) (by decide +kernel), List.mem_of_getElem? (i := 338) (by decide +kernel), List.mem_of_getElem? (i := 339) (by decide +kernel)⟩
theorem lw_p5 : lw_okq (⟨"Tenonyard$Forces", "carry", "(I)V"⟩, 17) := ⟨⟨by decide +kernel, by decide +kernel⟩, List.mem_of_getElem? (i := 94) (by decide +kernel), List.mem_of_getElem? (i := 349) (by decide +kernel), List.mem_of_getElem? (i := 350) (by decide +kernel)⟩
theorem lw_p6 : lw_okq (⟨"Tenonyard$Forces", "findBearings", "(LTenonyard$Frame;)V"⟩, 17) := ⟨⟨by decide +kernel, by decide +kernel⟩, List.mem_of_getElem? (i := 94) (by decide +kernel), List.mem_of_getElem? (i := 353) (by decide +kernel), List.mem_of_getElem? (i := 354) (by decide +kernel)⟩
theorem lw_p7 : lw_okq (⟨"Tenonyard$Forces", "findAmounts", "(LTenonyard$Frame;)V"⟩, 17) := ⟨⟨by decide +kernel, by decide +kernel⟩, List.mem_of_getElem? (i := 94) (by decide +kernel), List.mem_of_getElem? (i := 357) (by decide +kernel), List.mem_of_getElem? (i := 358) (by decide +kernel)⟩
theorem lw_p8 : lw_okq (⟨"Tenonyard$Forces", "timesLength", "(JJI)J"⟩, 17) := ⟨⟨by decide +kernel, by decide +kernel⟩, List.mem_of_getElem? (i := 94) (by decide +kernel), List.mem_of_getElem? (i := 371) (by decide +kernel), List.mem_of_getElem? (i := 372) (by decide +kernel)⟩
theorem lw_p9 : lw_okq (⟨"Tenonyard$Forces", "holdsAlong", "(LTenonyard$Frame;II)Z"⟩, 17) := ⟨⟨by decide +kernel, by decide +kernel⟩, List.mem_of_getElem? (i := 94) (by decide +kernel), List.mem_of_getElem? (i := 395) (by decide +kernel), List.mem_of_getElem? (i := 396) (by decide +kernel)⟩
theorem lw_p10 : lw_okq (⟨"Tenonyard$Raising", "gather", "(LTenonyard$Frame;LTenonyard$Joinery;)V"⟩, 9) := ⟨⟨by decide +kernel, by decide +kernel⟩, List.mem_of_getElem? (i := 238) (by decide +kernel), List.mem_of_getElem? (i := 412) (by decide +kernel), List.mem_of_getElem? (i := 413) (by decide +kernel)⟩
theorem lw_p11 : lw_okq (⟨"Tenonyard$Raising", "goForward", "(I)V"⟩, 9) := ⟨⟨by decide +kernel, by decide +kernel⟩, List.mem_of_getElem? (i := 238) (by decide +kernel), List.mem_of_getElem? (i := 428) (by decide +kernel), List.mem_of_getElem? (i := 429) (by decide +kernel)⟩
theorem lw_p12 : lw_okq (⟨"Tenonyard$Raising", "canMoveIn", "(II)Z"⟩, 9) := ⟨⟨by decide +kernel, by decide +kernel⟩, List.mem_of_getElem? (i := 238) (by decide +kernel), List.mem_of_getElem? (i := 437) (by decide +kernel), List.mem_of_getElem? (i := 438) (by decide +kernel)⟩
theorem lw_p13 : lw_okq (⟨"Tenonyard$Raising", "goBackward", "(I)V"⟩, 9) := ⟨⟨by decide +kernel, by decide +kernel⟩, List.mem_of_getElem? (i := 238) (by decide +kernel), List.mem_of_getElem? (i := 441) (by decide +kernel), List.mem_of_getElem? (i := 442) (by decide +kernel)⟩
theorem lw_p14 : lw_okq (⟨"Tenonyard$Raising", "findOrder", "(I)V"⟩, 9) := ⟨⟨by decide +kernel, by decide +kernel⟩, List.mem_of_getElem? (i := 238) (by decide +kernel), List.mem_of_getElem? (i := 445) (by decide +kernel), List.mem_of_getElem? (i := 446) (by decide +kernel)⟩
theorem lw_p15 : lw_okq (⟨"Tenonyard$Raising", "firstThatLeads", "(II)I"⟩, 9) := ⟨⟨by decide +kernel, by decide +kernel⟩, List.mem_of_getElem? (i := 238) (by decide +kernel), List.mem_of_getElem? (i := 449) (by decide +kernel), List.mem_of_getElem? (i := 450) (by decide +kernel)⟩
def lw_privs_1 : List (MethodName × Nat) := [(⟨"Tenonyard$Forces", "findPulls", "(LTenonyard$Frame;)C"⟩, 17), (⟨"Tenonyard$Forces", "fillRows", "(LTenonyard$Frame;)V"⟩, 17), (⟨"Tenonyard$Forces", "findDeterminants", "(I)V"⟩, 17), (⟨"Tenonyard$Forces", "expanded", "([JII)J"⟩, 17), (⟨"Tenonyard$Forces", "setPull", "(III)V"⟩, 17), (⟨"Tenonyard$Forces", "carry", "(I)V"⟩, 17), (⟨"Tenonyard$Forces", "findBearings", "(LTenonyard$Frame;)V"⟩, 17), (⟨"Tenonyard$Forces", "findAmounts", "(LTenonyard$Frame;)V"⟩, 17), (⟨"Tenonyard$Forces", "timesLength", "(JJI)J"⟩, 17), (⟨"Tenonyard$Forces", "holdsAlong", "(LTenonyard$Frame;II)Z"⟩, 17), (⟨"Tenonyard$Raising", "gather", "(LTenonyard$Frame;LTenonyard$Joinery;)V"⟩, 9), (⟨"Tenonyard$Raising", "goForward", "(I)V"⟩, 9), (⟨"Tenonyard$Raising", "canMoveIn", "(II)Z"⟩, 9), (⟨"Tenonyard$Raising", "goBackward", "(I)V"⟩, 9), (⟨"Tenonyard$Raising", "findOrder", "(I)V"⟩, 9), (⟨"Tenonyard$Raising", "firstThatLeads", "(II)I"⟩, 9)]
theorem lw_r1 : ∀ q ∈ lw_privs_1, lw_okq q := List.forall_mem_cons.mpr ⟨lw_p0, List.forall_mem_cons.mpr ⟨lw_p1, List.forall_mem_cons.mpr ⟨lw_p2, List.forall_mem_cons.mpr ⟨lw_p3, List.forall_mem_cons.mpr ⟨lw_p4, List.forall_mem_cons.mpr ⟨lw_p5, List.forall_mem_cons.mpr ⟨lw_p6, List.forall_mem_cons.mpr ⟨lw_p7, List.forall_mem_cons.mpr ⟨lw_p8, List.forall_mem_cons.mpr ⟨lw_p9, List.forall_mem_cons.mpr ⟨lw_p10, List.forall_mem_cons.mpr ⟨lw_p11, List.forall_mem_cons.mpr ⟨lw_p12, List.forall_mem_cons.mpr ⟨lw_p13, List.forall_mem_cons.mpr ⟨lw_p14, List.forall_mem_cons.mpr ⟨lw_p15, fun _ h => absurd h List.not_mem_nil⟩⟩⟩⟩⟩⟩⟩⟩⟩⟩⟩⟩⟩⟩⟩⟩
theorem lw_p16 : lw_okq (⟨"java/lang/Throwable", "fillInStackTrace", "(I)Ljava/lang/Throwable;"⟩, 6) := ⟨⟨by decide +kernel, by decide +kernel⟩, List.mem_of_getElem? (i := 609) (by decide +kernel), List.mem_of_getElem? (i := 607) (by decide +kernel), List.mem_of_getElem? (i := 608) (by decide +kernel)⟩
theorem lw_p17 : lw_okq (⟨"Tenonyard", "checkNode", "(I)V"⟩, 5) := ⟨⟨by decide +kernel, by decide +kernel⟩, List.mem_of_getElem? (i := 26) (by decide +kernel), List.mem_of_getElem? (i := 690) (by decide +kernel), List.mem_of_getElem? (i := 691) (by decide +kernel)⟩
theorem lw_p18 : lw_okq (⟨"Tenonyard", "checkMember", "(I)V"⟩, 5) := ⟨⟨by decide +kernel, by decide +kernel⟩, List.mem_of_getElem? (i := 26) (by decide +kernel), List.mem_of_getElem? (i := 740) (by decide +kernel), List.mem_of_getElem? (i := 741) (by decide +kernel)⟩
theorem lw_p19 : lw_okq (⟨"Tenonyard", "checkMoisture", "(I)V"⟩, 5) := ⟨⟨by decide +kernel, by decide +kernel⟩, List.mem_of_getElem? (i := 26) (by decide +kernel), List.mem_of_getElem? (i := 789) (by decide +kernel), List.mem_of_getElem? (i := 790) (by decide +kernel)⟩
theorem lw_p20 : lw_okq (⟨"Tenonyard", "checkStanding", "()V"⟩, 5) := ⟨⟨by decide +kernel, by decide +kernel⟩, List.mem_of_getElem? (i := 26) (by decide +kernel), List.mem_of_getElem? (i := 838) (by decide +kernel), List.mem_of_getElem? (i := 839) (by decide +kernel)⟩
theorem lw_p21 : lw_okq (⟨"Tenonyard$Forces", "restInThousandths", "(I)J"⟩, 17) := ⟨⟨by decide +kernel, by decide +kernel⟩, List.mem_of_getElem? (i := 94) (by decide +kernel), List.mem_of_getElem? (i := 906) (by decide +kernel), List.mem_of_getElem? (i := 907) (by decide +kernel)⟩
theorem lw_p22 : lw_okq (⟨"Tenonyard", "checkJoint", "(I)V"⟩, 5) := ⟨⟨by decide +kernel, by decide +kernel⟩, List.mem_of_getElem? (i := 26) (by decide +kernel), List.mem_of_getElem? (i := 947) (by decide +kernel), List.mem_of_getElem? (i := 948) (by decide +kernel)⟩
theorem lw_p23 : lw_okq (⟨"Tenonyard", "checkCut", "()V"⟩, 5) := ⟨⟨by decide +kernel, by decide +kernel⟩, List.mem_of_getElem? (i := 26) (by decide +kernel), List.mem_of_getElem? (i := 1015) (by decide +kernel), List.mem_of_getElem? (i := 1016) (by decide +kernel)⟩
theorem lw_p24 : lw_okq (⟨"Tenonyard$Cutting", "measure", "(LTenonyard$Frame;LTenonyard$Joinery;)V"⟩, 11) := ⟨⟨by decide +kernel, by decide +kernel⟩, List.mem_of_getElem? (i := 193) (by decide +kernel), List.mem_of_getElem? (i := 1023) (by decide +kernel), List.mem_of_getElem? (i := 1024) (by decide +kernel)⟩
theorem lw_p25 : lw_okq (⟨"Tenonyard$Cutting", "fitting", "(ILTenonyard$Frame;)I"⟩, 11) := ⟨⟨by decide +kernel, by decide +kernel⟩, List.mem_of_getElem? (i := 193) (by decide +kernel), List.mem_of_getElem? (i := 1038) (by decide +kernel), List.mem_of_getElem? (i := 1039) (by decide +kernel)⟩
theorem lw_p26 : lw_okq (⟨"Tenonyard$Cutting", "offer", "(III)V"⟩, 11) := ⟨⟨by decide +kernel, by decide +kernel⟩, List.mem_of_getElem? (i := 193) (by decide +kernel), List.mem_of_getElem? (i := 1042) (by decide +kernel), List.mem_of_getElem? (i := 1043) (by decide +kernel)⟩
theorem lw_p27 : lw_okq (⟨"Tenonyard$Cutting", "choose", "(J)V"⟩, 11) := ⟨⟨by decide +kernel, by decide +kernel⟩, List.mem_of_getElem? (i := 193) (by decide +kernel), List.mem_of_getElem? (i := 1050) (by decide +kernel), List.mem_of_getElem? (i := 1051) (by decide +kernel)⟩
theorem lw_p28 : lw_okq (⟨"Tenonyard", "checkPlaceInOrder", "(I)V"⟩, 5) := ⟨⟨by decide +kernel, by decide +kernel⟩, List.mem_of_getElem? (i := 26) (by decide +kernel), List.mem_of_getElem? (i := 1098) (by decide +kernel), List.mem_of_getElem? (i := 1099) (by decide +kernel)⟩
def lw_privs_2 : List (MethodName × Nat) := [(⟨"java/lang/Throwable", "fillInStackTrace", "(I)Ljava/lang/Throwable;"⟩, 6), (⟨"Tenonyard", "checkNode", "(I)V"⟩, 5), (⟨"Tenonyard", "checkMember", "(I)V"⟩, 5), (⟨"Tenonyard", "checkMoisture", "(I)V"⟩, 5), (⟨"Tenonyard", "checkStanding", "()V"⟩, 5), (⟨"Tenonyard$Forces", "restInThousandths", "(I)J"⟩, 17), (⟨"Tenonyard", "checkJoint", "(I)V"⟩, 5), (⟨"Tenonyard", "checkCut", "()V"⟩, 5), (⟨"Tenonyard$Cutting", "measure", "(LTenonyard$Frame;LTenonyard$Joinery;)V"⟩, 11), (⟨"Tenonyard$Cutting", "fitting", "(ILTenonyard$Frame;)I"⟩, 11), (⟨"Tenonyard$Cutting", "offer", "(III)V"⟩, 11), (⟨"Tenonyard$Cutting", "choose", "(J)V"⟩, 11), (⟨"Tenonyard", "checkPlaceInOrder", "(I)V"⟩, 5)]
theorem lw_r2 : ∀ q ∈ lw_privs_2, lw_okq q := List.forall_mem_cons.mpr ⟨lw_p16, List.forall_mem_cons.mpr ⟨lw_p17, List.forall_mem_cons.mpr ⟨lw_p18, List.forall_mem_cons.mpr ⟨lw_p19, List.forall_mem_cons.mpr ⟨lw_p20, List.forall_mem_cons.mpr ⟨lw_p21, List.forall_mem_cons.mpr ⟨lw_p22, List.forall_mem_cons.mpr ⟨lw_p23, List.forall_mem_cons.mpr ⟨lw_p24, List.forall_mem_cons.mpr ⟨lw_p25, List.forall_mem_cons.mpr ⟨lw_p26, List.forall_mem_cons.mpr ⟨lw_p27, List.forall_mem_cons.mpr ⟨lw_p28, fun _ h => absurd h List.not_mem_nil⟩⟩⟩⟩⟩⟩⟩⟩⟩⟩⟩⟩⟩
def lw_privs : List (MethodName × Nat) := lw_privs_1 ++ (lw_privs_2)
def lw_tbl : List Cond := k2_sels lw_privs ++ tables_1
theorem lw_privs_ok : ∀ q ∈ lw_privs, lw_okq q := by
  show ∀ q ∈ lw_privs_1 ++ (lw_privs_2), lw_okq q
  exact List.forall_mem_append.mpr ⟨lw_r1, lw_r2⟩
/-- the streams that the claim lets the run draw from -/
abbrev lw_cs : List Choice := [Jvm.Choice.named "NaN.bits"]
theorem lw_bits : nanBits ∈ lw_cs := by first | decide | exact List.mem_cons_self | simp [lw_cs, nanBits]
-- ===== end of PART A; then your names; then what follows =====
/-! THE CLAIM OUT OF ONE WALK OF THE LAW'S BODY. Your part is whole_start (and what it stands on); all else here is the same for every law, but numbers. -/
def R_law : String := "TenonyardLaw"
def lw_P (b : Addr) (xs : List Int32) (args : Array Value) (s : State) : Prop := args = #[.ref b] ∧ s.IntsAt b xs ∧ xs.length ≤ 260 ∧ (Jvm.Cond.and given_1 narrow_1).before args s = true
/-- what a walk over the start with the record d0 says of its end, said of the start itself -/
theorem lw_closed {s t : State} {o : Outcome} {d0 : Drawn} {L : List Loc} {k n : Nat} (hd0 : s.drawn.sameBut d0 lw_cs) (hv : ∃ v, o = .returned v) (hW : (s.setDrawn d0).WarmedH t.vm) (hs : (s.setDrawn d0).sameButNew ({ t with vm := s.vm } : State) L k n) : State.butDraws s t lw_cs (fun t1 => Framed s o t1 L k n) := by
  have h2 : t.drawn = d0 := congrArg State.drawn hs.1
  refine ⟨⟨hv, hW, State.sameButNew.setDrawn hs s.drawn⟩, ?_, by decide⟩
  rw [h2]
  exact hd0
def lw_Q (_ : Array Value) (s : State) (o : Outcome) (t : State) : Prop := o = .returned (some (.int 1)) ∧ State.butDraws s t lw_cs (fun t1 => Framed s o t1 [] 606044 7276122)
def lw_Z (below : List Frame) (a : Array Value) (s : State) : State → Prop := fun t => ∃ o, t.status = .running ∧ Ended t below o ∧ lw_Q a s o t
/-- the law's own end, with 1 on the stack, nothing written that was there before, its room as the claim has it; d0: the record of draws at this point (at the entry s.drawn: begin with 'refine W.base ?_' and 'have hd0 := Drawn.sameBut.refl s.drawn lw_cs') -/
theorem lw_ret {p : Program} {l : Launch} {e : Env} {s : State} {m : MethodId} {below : List Frame} {meth : Method} {c : Code} {b : Nat} {d0 : Drawn} (hd0 : s.drawn.sameBut d0 lw_cs) (hx : p.tables.exec = Jvm.exec) (hb : c.code = code) (hr : meth.sig.returnType = ret) (hlocks : meth.locks = false) {pc : Nat} {H : Heap} {ls : Array Slot} (hdg : decode code pc = .ok (.ireturn, 1)) : W p l e room_1 (s.setDrawn d0) m #[Value.ref b] below meth c H [] 606044 7276122 (lw_Z below #[Value.ref b] s) (F0 m pc ls [.int 1]) := by
  intro T hT X
  obtain ⟨fs, hret, hrun, hended, hW, hframe⟩ := X.leave (v := some (.int 1)) (hlocks := hlocks) (fun h => by rw [hr] at h; cases h)
  have hmeth' : T.vm.method? m = some meth := X.method'
  refine ⟨T.setFrames fs, ?_, .returned (some (.int 1)), hrun, hended, rfl, lw_closed hd0 ⟨_, rfl⟩ hW hframe⟩
  jvm_step X.here [X.here.top, hx, hb, hdg, hmeth', hr, ret, narrow_b1]
  (try refine ⟨rfl, ?_⟩); (try refine ⟨rfl, ?_⟩)
  first | (intro acts; rw [hret _ acts rfl rfl rfl]) | rw [hret _ _ rfl rfl rfl]
  exact Steps.refl _
/-- what holds at the law's entry: the machine, the code, the tables' words (any of lw_tbl by 'hts w (by decide +kernel)'), the script of L ints xs at the cell b, what the Statement gives of the start (any of its parts by flat_of_before) -/
def lw_At (p : Program) (s : State) (m : MethodId) (meth : Method) (c : Code) (b L : Nat) (xs : Nat → Int32) : Prop :=
  p.tables.exec = Jvm.exec ∧ c.code = code ∧ meth.sig.returnType = ret ∧ c.maxLocals = 12 ∧ s.vm.findClass R_law = some m.cls ∧ (∀ w ∈ lw_tbl, w.before #[Value.ref b] s = true) ∧ va_X b L xs s s.heap ∧ b < s.heap.size ∧ meth.locks = false ∧ (Jvm.Cond.and given_1 narrow_1).before #[Value.ref b] s = true
end
section
/-! ===== BEGIN words of one list among another's, by their places ===== -/
theorem goodIn_r {big : List Cond} (ws : List Cond) (ps : List Nat) (hp : ws = ps.filterMap (fun i => big[i]?)) (h : ws.all goodWord = true) : GoodIn big ws := by
  intro w hw
  have h1 := List.all_eq_true.mp h w hw
  rw [hp] at hw
  obtain ⟨i, -, hi⟩ := List.mem_filterMap.mp hw
  have hm : w ∈ big := by first | exact List.mem_of_getElem? hi | exact List.getElem?_mem hi
  exact ⟨hm, good_of_word h1⟩
theorem goodIn_app {big a b : List Cond} (ha : GoodIn big a) (hb : GoodIn big b) : GoodIn big (a ++ b) := fun w h => (List.mem_append.mp h).elim (ha w) (hb w)
theorem goodIn_ca {big a b : List Cond} {c : Cond} (ha : GoodIn big (c :: a)) (hb : GoodIn big b) : GoodIn big (c :: (a ++ b)) := fun w h => (List.mem_cons.mp h).elim (fun e => ha w (List.mem_cons.mpr (Or.inl e))) (fun h => (List.mem_append.mp h).elim (fun h => ha w (List.mem_cons.mpr (Or.inr h))) (hb w))
theorem goodIn_sub {big ws : List Cond} (hm : ∀ w ∈ ws, w ∈ big) (h : ws.all goodWord = true) : GoodIn big ws := fun w hw => ⟨hm w hw, good_of_word (List.all_eq_true.mp h w hw)⟩
/-! ===== END ===== -/
/-! ===== BEGIN exceptions that leave a method, and their catching by the caller (launches without stack traces) ===== -/
section VXA
/-! The laws vx_back, vx_callV, vx_callS, vx_callSW, vx_throw0, vx_throwS follow proofs of the library, with one case more: JvmDerived/Free/Laws.lean (Back.of_free), Shelf42/LK1.lean (callV, callS), Shelf/KitTraced.lean (throwNew0V, throwNewS). -/
/-- where a method has thrown q: the class by its name, the cell, what was written, the world -/
def vx_T (XC : String → State → State → Prop) (st : State) (q : Addr) (t : State) (mc ms : Nat) (free : Addr → Prop) : Prop :=
  ∃ (E : String) (ce : Cell) (L : List Loc), XC E st t ∧ t.heap[q]? = some ce ∧ ce.vm = .none ∧ st.vm.findClass E = some ce.cls ∧ st.WarmedH t.vm ∧ st.sameButNew ({ t with vm := st.vm } : State) L mc ms ∧ ∀ z ∈ L, free z.base
def vx_Q (Qc : Array Value → State → Outcome → State → Prop) (XC : String → State → State → Prop) (mc ms : Nat) (free : Addr → Prop) : Array Value → State → Outcome → State → Prop := fun a st o t =>
  (Qc a st o t ∧ ∃ L, FrameEnd st o t L mc ms ∧ ∀ q ∈ L, free q.base) ∨ ∃ q, o = .threw q ∧ vx_T XC st q t mc ms free
/-- a callee that returns or throws -/
def vx_Met (l : Launch) (y : MethodName) (ws : List Cond) (rm : Room) (Pc : Array Value → State → Prop) (Qc : Array Value → State → Outcome → State → Prop) (XC : String → State → State → Prop) (mc ms : Nat) (free : Addr → Prop) : Prop :=
  MetFree l y (headSpec ws rm) Pc (fun _ _ _ _ _ => True) (vx_Q Qc XC mc ms free)
def vx_Post (XC : String → State → State → Prop) (mc ms : Nat) (free : Addr → Prop) : Pt → Array Value → Addr → Pt → Prop := fun A a q B =>
  ∃ (g : JFrame) (mk : MethodId) (t : State) (L : List Loc) (E : String) (ce : Cell), B.U.heap = t.heap ∧ B.U.vm = t.vm ∧ XC E (A.U.calling g mk a) t ∧ t.heap[q]? = some ce ∧ ce.vm = .none ∧ A.U.vm.findClass E = some ce.cls ∧ B.locs = A.locs ++ L ∧ (∀ z ∈ L, free z.base) ∧ B.cells = A.cells + mc ∧ B.slots = A.slots + ms
def vx_Back (l : Launch) (R : Room) (p : Program) (e : Env) (below : List Frame) (s : State) (sargs : Array Value) (y : MethodName) (len W9 : Nat)
    (Pre : Pt → Array Value → Prop) (Post : Pt → Array Value → Option Value → Pt → Prop) (PostX : Pt → Array Value → Addr → Pt → Prop) : Prop :=
  ∀ (m : MethodId) (meth : Method) (c : Code) (A : Pt) (g : JFrame) (ig : Instr) (mk : MethodId) (a : Array Value),
    Stand p l e R s m sargs below meth c A.U A.locs A.cells A.slots → g.method = m → g.locals.size = c.maxLocals → decode c.code g.pc = .ok (ig, len) →
    2 * g.monitorRoom + (g.stack.map fun v => v.category).sum ≤ W9 → A.U.methodNamed? y = some mk → Pre A a →
    (∃ (v : Option Value) (B : Pt), Stand p l e R s m sargs below meth c B.U B.locs B.cells B.slots ∧ Post A a v B ∧
      Steps p.tables e below (doInvoke e (A.U.setTop g) [] mk a).1 (B.U.setTop { g with pc := g.pc + len, stack := v.toList ++ g.stack })) ∨
    (∃ (q : Addr) (B : Pt), Stand p l e R s m sargs below meth c B.U B.locs B.cells B.slots ∧ PostX A a q B ∧
      Steps p.tables e below (doInvoke e (A.U.setTop g) [] mk a).1 ((B.U.setTop g).pushFrame (.throwing q)))
section Payer
variable {l : Launch} {R : Room} {p : Program} {e : Env} {below : List Frame} {s : State} {sargs : Array Value} {y : MethodName} {len W9 : Nat}
theorem vx_back {ws : List Cond} {rm : Room} {Pc : Array Value → State → Prop} {Qc : Array Value → State → Outcome → State → Prop} {XC : String → State → State → Prop} {mc ms : Nat} {free : Addr → Prop} {bytes : ByteArray} {maxL : Nat} {ret : Option FieldType}
    (hM : vx_Met l y ws rm Pc Qc XC mc ms free) (hblind : FrameBlind Pc) (hrc : rm.cells = mc) (hrs : rm.slots = ms)
    (hframes : rm.frames + 1 ≤ R.frames) (hlocals : W9 + (maxL + 11) + rm.locals ≤ R.locals)
    (hws : ∀ w ∈ ws, ∀ a' U, s.WarmedH U.vm → w.before a' U = true) (hcode : Cond.code y bytes maxL ret ∈ ws) (hinit : ∀ a' U, s.WarmedH U.vm → (Cond.initialized y.cls).before a' U = true) :
    vx_Back l R p e below s sargs y len W9 (PreOf R mc ms Pc) (PostOf Qc mc ms free) (vx_Post XC mc ms free) := by
  intro m meth c A g ig mk a X hg hsize hdg hW hn hp
  have h1 : (headSpec ws rm).pre.before a A.U = true := atoms_intro fun w hw => hws w hw _ _ X.warmed
  have h2 : (Cond.code y bytes maxL ret).before a A.U = true := hws _ hcode _ _ X.warmed
  have h3 : (Cond.initialized y.cls).before a A.U = true := hinit _ _ X.warmed
  have h4 : A.cells + (headSpec ws rm).room.cells ≤ R.cells := by rw [show (headSpec ws rm).room.cells = mc from hrc]; exact hp.1
  have h5 : A.slots + (headSpec ws rm).room.slots ≤ R.slots := by rw [show (headSpec ws rm).room.slots = ms from hrs]; exact hp.2.1
  have hPc : Pc a (A.U.calling g mk a) := hblind _ _ _ _ hp.2.2
  obtain ⟨U, Ls, c0, s0⟩ := A
  dsimp only [Pt.U, Pt.locs, Pt.cells, Pt.slots] at h1 h2 h3 h4 h5 X hn hPc ⊢
  obtain ⟨methY, cY, hmY, hcY, -, hlY, -, -, -, -⟩ := Cond.code_spec hn h2
  obtain ⟨kY, hkY, -⟩ := className_of_methodNamed hn
  have hinitY : kY.init = .initialized := Cond.initialized_spec (findClass_of_methodNamed hn) hkY h3
  have h : At U g.method c below := by rw [hg]; exact X.here
  have hlocals9 : W9 + (maxL + 11) + (headSpec ws rm).room.locals ≤ R.locals := hlocals
  have happ : (headSpec ws rm).appliesLoose y e.platform (U.calling g mk a) = true :=
    Spec.appliesLoose_calling (g := g) h hdg hn hkY hinitY
      (X.room_calling (g := g) (R' := (headSpec ws rm).room) hsize hmY hcY hframes (by rw [hlY]; omega) h4 h5) h1
  obtain ⟨mid, hmid⟩ := h.above
  have hfr : (U.setTop g).frames = (.java g :: mid) ++ below := by rw [State.frames_setTop' g h.top, hmid]; rfl
  obtain ⟨o, s₂, hsteps, -, hend, hq⟩ := Steps.callFree hM p X.admits X.cas X.clock (acts := []) hfr happ hPc trivial
  have hq' : vx_Q Qc XC mc ms free a (U.calling g mk a) o s₂ := hq
  rw [State.frames_setTop' g h.top] at hend
  obtain ⟨g₀, hg0⟩ := Option.isSome_iff_exists.mp h.top
  obtain ⟨r, hr⟩ := State.topJava?_eq_some.mp hg0
  have hr' : (({ U with heap := s₂.heap, slotsUsed := s₂.slotsUsed } : State).setVm s₂.vm).frames = .java g₀ :: r := hr
  rcases hq' with ⟨hqc, L, hfe, hL⟩ | ⟨q, rfl, E, ce, L, hx, hce, hcv, hcl, hW₂, hsm, hL⟩
  · obtain ⟨⟨v, rfl⟩, hW₂, e2, q2, q3, q4, q5, q6⟩ := id hfe
    have e3 : s₂ = ({ (U.calling g mk a).setFrames s₂.frames with heap := s₂.heap, slotsUsed := s₂.slotsUsed } : State).setVm s₂.vm := by
      have : s₂ = ({ s₂ with vm := (U.calling g mk a).vm } : State).setVm s₂.vm := rfl
      rw [e2] at this
      exact this
    obtain ⟨c₂, i₂, len₂, hc₂, hd₂, hf₂⟩ := hend
    have hW' : U.WarmedH s₂.vm := hW₂
    have hcc : c₂ = c := by
      have h1 : s₂.code? g.method = U.code? g.method := by
        rw [State.code?_eq, State.code?_eq, hW'.alike.method?]
      exact Option.some.inj (hc₂.symm.trans (h1.trans h.code))
    subst hcc
    have hlen : len₂ = len := by rw [hdg] at hd₂; cases hd₂; rfl
    subst hlen
    have hs₂ : s₂ = (({ U with heap := s₂.heap, slotsUsed := s₂.slotsUsed } : State).setVm s₂.vm).setTop { g with pc := g.pc + len₂, stack := v.toList ++ g.stack } := by
      refine e3.trans ?_
      rw [hf₂, State.calling_eq h.top, State.setFrames_setFrames, State.setTop_of_frames _ hr', hr]
      rfl
    have hsame : U.sameButNew ({ U with heap := s₂.heap, slotsUsed := s₂.slotsUsed } : State) L mc ms := by
      refine ⟨?_, q2, q3, q4, q5, q6⟩
      obtain ⟨t, ht, -⟩ := State.frames_cons hr
      show ({ U with heap := s₂.heap, slotsUsed := s₂.slotsUsed } : State) = { U.setFrames U.frames with heap := s₂.heap, slotsUsed := s₂.slotsUsed }
      rw [State.setFrames_self ht]
    subst hg
    refine Or.inl ⟨v, ⟨(({ U with heap := s₂.heap, slotsUsed := s₂.slotsUsed } : State).setVm s₂.vm), Ls ++ L, c0 + mc, s0 + ms⟩,
      ⟨X.admits, X.cas, X.clock, X.frames, X.room, X.hears, X.method, X.code, (X.here.setHeapUsed s₂.heap s₂.slotsUsed).setVm hW'.alike, X.tail, State.WarmedH.trans X.warmed hW', X.limits, X.bytes, X.same.trans (hsame.setVm s.vm)⟩,
      ⟨g, mk, s₂, L, rfl, rfl, hqc, rfl, hL, rfl, rfl⟩, ?_⟩
    show Steps p.tables e below _ ((({ U with heap := s₂.heap, slotsUsed := s₂.slotsUsed } : State).setVm s₂.vm).setTop { g with pc := g.pc + len₂, stack := v.toList ++ g.stack })
    rw [← hs₂]
    exact hsteps
  · obtain ⟨e2, q2, q3, q4, q5, q6⟩ := id hsm
    have e3 : s₂ = ({ (U.calling g mk a).setFrames s₂.frames with heap := s₂.heap, slotsUsed := s₂.slotsUsed } : State).setVm s₂.vm := by
      have : s₂ = ({ s₂ with vm := (U.calling g mk a).vm } : State).setVm s₂.vm := rfl
      rw [e2] at this
      exact this
    have hf₂ : s₂.frames = .throwing q :: .java g :: U.frames.tail := hend
    have hW' : U.WarmedH s₂.vm := hW₂
    have hs₂ : s₂ = ((({ U with heap := s₂.heap, slotsUsed := s₂.slotsUsed } : State).setVm s₂.vm).setTop g).pushFrame (.throwing q) := by
      refine e3.trans ?_
      rw [hf₂, State.calling_eq h.top, State.setFrames_setFrames, State.pushFrame, State.frames_setTop _ hr', State.setTop_of_frames _ hr', State.setFrames_setFrames, hr]
      rfl
    have hsame : U.sameButNew ({ U with heap := s₂.heap, slotsUsed := s₂.slotsUsed } : State) L mc ms := by
      refine ⟨?_, q2, q3, q4, q5, q6⟩
      obtain ⟨t, ht, -⟩ := State.frames_cons hr
      show ({ U with heap := s₂.heap, slotsUsed := s₂.slotsUsed } : State) = { U.setFrames U.frames with heap := s₂.heap, slotsUsed := s₂.slotsUsed }
      rw [State.setFrames_self ht]
    subst hg
    refine Or.inr ⟨q, ⟨(({ U with heap := s₂.heap, slotsUsed := s₂.slotsUsed } : State).setVm s₂.vm), Ls ++ L, c0 + mc, s0 + ms⟩,
      ⟨X.admits, X.cas, X.clock, X.frames, X.room, X.hears, X.method, X.code, (X.here.setHeapUsed s₂.heap s₂.slotsUsed).setVm hW'.alike, X.tail, State.WarmedH.trans X.warmed hW', X.limits, X.bytes, X.same.trans (hsame.setVm s.vm)⟩,
      ⟨g, mk, s₂, L, E, ce, rfl, rfl, hx, hce, hcv, hcl, rfl, hL, rfl, rfl⟩, ?_⟩
    show Steps p.tables e below _ (((({ U with heap := s₂.heap, slotsUsed := s₂.slotsUsed } : State).setVm s₂.vm).setTop g).pushFrame (.throwing q))
    rw [← hs₂]
    exact hsteps
end Payer
section Calls
variable {p : Program} {l : Launch} {e : Env} {R : Room} {s : State} {m : MethodId} {args : Array Value} {below : List Frame} {meth : Method} {c : Code} {T : State} {locs : List Loc} {cells slots : Nat}
theorem vx_callV (X : Stand p l e R s m args below meth c T locs cells slots) (hexec : p.tables.exec = Jvm.exec) {own C : String} {index : Nat} {y : MethodName} {bytes : ByteArray} {maxL : Nat} {ret : Option FieldType}
    (hown : s.vm.findClass own = some m.cls) (hlink : (Cond.methodLink own index y).before args s = true) (hinst : (Cond.instanceMethod y).before args s = true) (hsel : (Cond.selects C y y).before args s = true)
    (hcode : (Cond.code y bytes maxL ret).before args s = true) (hy : y.cls ≠ "java/lang/invoke/MethodHandle" ∧ y.cls ≠ "java/lang/invoke/VarHandle")
    {W9 : Nat} {Pre : Pt → Array Value → Prop} {Post : Pt → Array Value → Option Value → Pt → Prop} {PostX : Pt → Array Value → Addr → Pt → Prop} (hK : vx_Back l R p e below s args y 3 W9 Pre Post PostX)
    {b : Addr} {cellB : Cell} (hcell : T.heap[b]? = some cellB) (hobj : cellB.vm.isStatics = false) (hcls : s.vm.findClass C = some cellB.cls)
    {g : JFrame} (hg : g.method = m) (hsize : g.locals.size = c.maxLocals) {argsL rest : List Value} (hlen : ∀ sig, parseMethodDescriptor y.desc = some sig → argsL.length = sig.parameters.length)
    (hstack : g.stack = argsL.reverse ++ .ref b :: rest) (hW : 2 * g.monitorRoom + (rest.map fun v => v.category).sum ≤ W9) (hdg : decode c.code g.pc = .ok (.invokevirtual index, 3))
    (hpre : ∀ vm₁, s.WarmedH vm₁ → Pre ⟨T.setVm vm₁, locs, cells, slots⟩ (Value.ref b :: argsL).toArray) :
    (∃ (v : Option Value) (vm₁ : Vm) (B : Pt), s.WarmedH vm₁ ∧ Stand p l e R s m args below meth c B.U B.locs B.cells B.slots ∧ Post ⟨T.setVm vm₁, locs, cells, slots⟩ (Value.ref b :: argsL).toArray v B ∧
      ∀ target, Steps p.tables e below (B.U.setTop { g with pc := g.pc + 3, stack := v.toList ++ rest }) target → Steps p.tables e below (T.setTop g) target) ∨
    (∃ (q : Addr) (vm₁ : Vm) (B : Pt), s.WarmedH vm₁ ∧ Stand p l e R s m args below meth c B.U B.locs B.cells B.slots ∧ PostX ⟨T.setVm vm₁, locs, cells, slots⟩ (Value.ref b :: argsL).toArray q B ∧
      Steps p.tables e below (T.setTop g) ((B.U.setTop { g with stack := rest }).pushFrame (.throwing q))) := by
  obtain ⟨mk, methM, hnamed, hmethM, hstM, habM⟩ := Cond.instanceMethod_spec hinst
  obtain ⟨methM', cM, hmethM', -, -, -, -, -, -, hsigM⟩ := Cond.code_spec hnamed hcode
  cases hmethM.symm.trans hmethM'
  obtain ⟨c2, r2, m2, q1, q2, q3, q4, kP, hkP, hkPi⟩ := Cond.selects_spec hsel
  cases hcls.symm.trans q1
  cases (State.methodFound?_of_named hnamed hy).symm.trans q2
  cases hnamed.symm.trans q3
  have hselP : selectMethod e.platform s.vm cellB.cls mk = .method mk := by rw [Launch.admits_selectMethod X.admits]; exact q4
  obtain ⟨vm₁, X₁, hstep₁⟩ := X.invokevirtual hexec hown hlink hnamed hmethM hstM hkP hkPi hy (a := b) (cell := cellB) hcell
    (fun z h => by rw [h] at hobj; cases hobj) hselP hmethM habM hkP hkPi (g := g) hg (argsL := argsL) (rest := rest) (hlen _ hsigM) hstack hdg
  rcases hK m meth c ⟨T.setVm vm₁, locs, cells, slots⟩ { g with stack := rest } (.invokevirtual index) mk (Value.ref b :: argsL).toArray X₁ hg hsize hdg hW (X₁.named hnamed) (hpre vm₁ X₁.warmed) with ⟨v, B, X', hpost, hsteps⟩ | ⟨q, B, X', hpost, hsteps⟩
  · exact Or.inl ⟨v, vm₁, B, X₁.warmed, X', hpost, fun target h => hstep₁ _ fun acts => by rw [doInvoke_state]; exact hsteps.trans h⟩
  · exact Or.inr ⟨q, vm₁, B, X₁.warmed, X', hpost, hstep₁ _ fun acts => by rw [doInvoke_state]; exact hsteps⟩
theorem vx_callS (X : Stand p l e R s m args below meth c T locs cells slots) (hexec : p.tables.exec = Jvm.exec) {own : String} {index : Nat} {y : MethodName} {bytes : ByteArray} {maxL : Nat} {ret : Option FieldType}
    (hown : s.vm.findClass own = some m.cls) (hlink : (Cond.methodLink own index y).before args s = true) (hstat : (Cond.static y).before args s = true) (hinit : (Cond.initialized y.cls).before args s = true)
    (hcode : (Cond.code y bytes maxL ret).before args s = true) (hy : y.cls ≠ "java/lang/invoke/MethodHandle" ∧ y.cls ≠ "java/lang/invoke/VarHandle")
    {W9 : Nat} {Pre : Pt → Array Value → Prop} {Post : Pt → Array Value → Option Value → Pt → Prop} {PostX : Pt → Array Value → Addr → Pt → Prop} (hK : vx_Back l R p e below s args y 3 W9 Pre Post PostX)
    {g : JFrame} (hg : g.method = m) (hsize : g.locals.size = c.maxLocals) {argsL rest : List Value} (hlen : ∀ sig, parseMethodDescriptor y.desc = some sig → argsL.length = sig.parameters.length)
    (hstack : g.stack = argsL.reverse ++ rest) (hW : 2 * g.monitorRoom + (rest.map fun v => v.category).sum ≤ W9) (hdg : decode c.code g.pc = .ok (.invokestatic index, 3))
    (hpre : ∀ vm₁, s.WarmedH vm₁ → Pre ⟨T.setVm vm₁, locs, cells, slots⟩ argsL.toArray) :
    (∃ (v : Option Value) (vm₁ : Vm) (B : Pt), s.WarmedH vm₁ ∧ Stand p l e R s m args below meth c B.U B.locs B.cells B.slots ∧ Post ⟨T.setVm vm₁, locs, cells, slots⟩ argsL.toArray v B ∧
      ∀ target, Steps p.tables e below (B.U.setTop { g with pc := g.pc + 3, stack := v.toList ++ rest }) target → Steps p.tables e below (T.setTop g) target) ∨
    (∃ (q : Addr) (vm₁ : Vm) (B : Pt), s.WarmedH vm₁ ∧ Stand p l e R s m args below meth c B.U B.locs B.cells B.slots ∧ PostX ⟨T.setVm vm₁, locs, cells, slots⟩ argsL.toArray q B ∧
      Steps p.tables e below (T.setTop g) ((B.U.setTop { g with stack := rest }).pushFrame (.throwing q))) := by
  obtain ⟨mk, hnamed⟩ := Cond.code_named hcode
  obtain ⟨methM, cM, hmethM, -, -, -, -, -, -, hsigM⟩ := Cond.code_spec hnamed hcode
  have hstatic : methM.isStatic = true := Cond.static_spec hnamed hmethM hstat
  obtain ⟨kP, hkP, -⟩ := className_of_methodNamed hnamed
  have hinitP : kP.init = .initialized := Cond.initialized_spec (findClass_of_methodNamed hnamed) hkP hinit
  obtain ⟨vm₁, X₁, hstep₁⟩ := X.invokestatic hexec hown hlink hnamed hmethM hstatic hkP hinitP hy (g := g) hg (argsL := argsL) (rest := rest) (hlen _ hsigM) hstack hdg
  rcases hK m meth c ⟨T.setVm vm₁, locs, cells, slots⟩ { g with stack := rest } (.invokestatic index) mk argsL.toArray X₁ hg hsize hdg hW (X₁.named hnamed) (hpre vm₁ X₁.warmed) with ⟨v, B, X', hpost, hsteps⟩ | ⟨q, B, X', hpost, hsteps⟩
  · exact Or.inl ⟨v, vm₁, B, X₁.warmed, X', hpost, fun target h => hstep₁ _ fun acts => by rw [doInvoke_state]; exact hsteps.trans h⟩
  · exact Or.inr ⟨q, vm₁, B, X₁.warmed, X', hpost, hstep₁ _ fun acts => by rw [doInvoke_state]; exact hsteps⟩
end Calls
theorem vx_cls {s : State} {T : State} {vm₁ : Vm} {E : String} {k : ClassId} (hW : s.WarmedH vm₁) (h : (T.setVm vm₁).vm.findClass E = some k) : s.vm.findClass E = some k := by
  have h1 : vm₁.findClass E = some k := h
  rw [hW.alike.findClass] at h1
  exact h1
/-- the method's frame g, with q thrown over it -/
def vx_W (p : Program) (l : Launch) (e : Env) (R : Room) (s : State) (m : MethodId) (args : Array Value) (below : List Frame) (meth : Method) (c : Code) (H : Heap) (locs : List Loc) (cells slots : Nat) (Q : State → Prop) (g : JFrame) (q : Addr) : Prop :=
  ∀ T : State, T.heap = H → Stand p l e R s m args below meth c T locs cells slots → ∃ t, Steps p.tables e below ((T.setTop g).pushFrame (.throwing q)) t ∧ Q t
def vx_Run (p : Program) (l : Launch) (e : Env) (R : Room) (s : State) (m : MethodId) (args : Array Value) (below : List Frame) (meth : Method) (c : Code) (H : Heap) (locs : List Loc) (cells slots mc ms : Nat) (g : JFrame) (rest : List Value) (Qa : State → Outcome → State → Prop) (XC : String → State → State → Prop) (free : Addr → Prop) : Prop :=
  ∀ T : State, T.heap = H → Stand p l e R s m args below meth c T locs cells slots →
    (∃ (v : Option Value) (st₀ t T' : State) (L : List Loc), st₀.heap = H ∧ Stand p l e R s m args below meth c T' (locs ++ L) (cells + mc) (slots + ms) ∧ (∀ q ∈ L, free q.base) ∧ T'.heap = t.heap ∧ T'.vm = t.vm ∧ Qa st₀ (.returned v) t ∧
      Goes p e below T g T' { g with pc := g.pc + 3, stack := v.toList ++ rest }) ∨
    (∃ (q : Addr) (st₀ t T' : State) (L : List Loc) (E : String) (ce : Cell), st₀.heap = H ∧ Stand p l e R s m args below meth c T' (locs ++ L) (cells + mc) (slots + ms) ∧ (∀ z ∈ L, free z.base) ∧ T'.heap = t.heap ∧ T'.vm = t.vm ∧ XC E st₀ t ∧ t.heap[q]? = some ce ∧ ce.vm = .none ∧ s.vm.findClass E = some ce.cls ∧
      Steps p.tables e below (T.setTop g) ((T'.setTop { g with stack := rest }).pushFrame (.throwing q)))
def vx_X {S : Type} (px : S → Prop) (B : String → S → State → Prop) (A : Nat → Prop) : String → State → State → Prop := fun E st t => ∃ u : S, px u ∧ B E u t ∧ va_F A st t
section Runs
variable {p : Program} {l : Launch} {e : Env} {R : Room} {s : State} {m : MethodId} {args : Array Value} {below : List Frame} {meth : Method} {c : Code} {H : Heap} {locs : List Loc} {cells slots : Nat}
variable {y : MethodName} {bytes cc : ByteArray} {maxL nL mc ms n index : Nat} {ret : Option FieldType} {ws : List Cond} {rm : Room} {Pc : Array Value → State → Prop} {Qc : Array Value → State → Outcome → State → Prop} {XC : String → State → State → Prop} {free : Addr → Prop} {Ts : List Cond} {own C : String} {b : Addr} {As rest : List Value} {g : JFrame}
theorem vx_callBack (cb : CallB R s args own index y bytes maxL ret ws rm mc ms n) (hM : vx_Met l y ws rm Pc Qc XC mc ms free) (hbl : FrameBlind Pc) : vx_Back l R p e below s args y 3 8 (PreOf R mc ms Pc) (PostOf Qc mc ms free) (vx_Post XC mc ms free) := by
  obtain ⟨hrc, hrs, hfr, hlo, hws, hcw, -, hini, -⟩ := cb
  exact vx_back (bytes := bytes) (maxL := maxL) (ret := ret) hM hbl hrc hrs hfr hlo hws hcw (fun a' U hW => word_at hW (Or.inl (by first | rfl | simp [Cond.onTables, Cond.keeps, Cond.steady])) hini)
theorem vx_runV (S : CallFix p m c cc nL s args Ts own) (hM : vx_Met l y ws rm Pc Qc XC mc ms free) (cw : CallW R s args own C index y bytes maxL ret ws rm mc ms n) (hp : PreV s H C b Pc As)
    (hg : g.method = m) (hn : As.length = n) (hsize : g.locals.size = nL) (hstack : g.stack = As.reverse ++ .ref b :: rest) (hW : 2 * g.monitorRoom + (rest.map fun v => v.category).sum ≤ 8) (hdg : decode cc g.pc = .ok (.invokevirtual index, 3)) (hf : cells + mc ≤ R.cells ∧ slots + ms ≤ R.slots) :
    vx_Run p l e R s m args below meth c H locs cells slots mc ms g rest (Qc (Value.ref b :: As).toArray) XC free := by
  have hK : vx_Back l R p e below s args y 3 8 (PreOf R mc ms Pc) (PostOf Qc mc ms free) (vx_Post XC mc ms free) := vx_callBack cw.1 hM hp.1
  obtain ⟨⟨-, -, -, -, -, -, hcode, -, hy, hlen, hl⟩, hin, hse⟩ := cw
  obtain ⟨hx, hb, hml, ho, -⟩ := S
  obtain ⟨-, ⟨cellB, hcB, hoB, hclB⟩, hPc⟩ := hp
  intro T hT X
  rcases vx_callV X hx (C := C) (bytes := bytes) (maxL := maxL) (ret := ret) ho hl hin hse hcode hy hK (by rw [hT]; exact hcB) hoB hclB hg (hsize.trans hml.symm) (argsL := As) (rest := rest) (fun sig h => hn.trans (hlen sig h)) hstack hW (by rw [hb]; exact hdg)
    (fun vm₁ hW₁ => ⟨hf.1, hf.2, hPc (T.setVm vm₁) hT hW₁⟩) with ⟨v, vm₁, ⟨U', l2, c2, s2⟩, hW₁, X', ⟨g', mk, t, L, e1, e2, hq, h1, hL, h2, h3⟩, st⟩ | ⟨q, vm₁, ⟨U', l2, c2, s2⟩, hW₁, X', ⟨g', mk, t, L, E, ce, e1, e2, hq, hce, hcv, hcl, h1, hL, h2, h3⟩, st⟩
  · dsimp only [Pt.U, Pt.locs, Pt.cells, Pt.slots] at X' e1 e2 h1 h2 h3 st
    subst h1; subst h2; subst h3
    exact Or.inl ⟨v, (T.setVm vm₁).calling g' mk (Value.ref b :: As).toArray, t, U', L, hT, X', hL, e1, e2, hq, st⟩
  · dsimp only [Pt.U, Pt.locs, Pt.cells, Pt.slots] at X' e1 e2 h1 h2 h3 st hcl
    subst h1; subst h2; subst h3
    exact Or.inr ⟨q, (T.setVm vm₁).calling g' mk (Value.ref b :: As).toArray, t, U', L, E, ce, hT, X', hL, e1, e2, hq, hce, hcv, vx_cls hW₁ hcl, st⟩
theorem vx_runS (S : CallFix p m c cc nL s args Ts own) (hM : vx_Met l y ws rm Pc Qc XC mc ms free) (cw : CallB R s args own index y bytes maxL ret ws rm mc ms n ∧ (Cond.static y).before args s = true) (hp : PreS s H Pc As)
    (hg : g.method = m) (hn : As.length = n) (hsize : g.locals.size = nL) (hstack : g.stack = As.reverse ++ rest) (hW : 2 * g.monitorRoom + (rest.map fun v => v.category).sum ≤ 8) (hdg : decode cc g.pc = .ok (.invokestatic index, 3)) (hf : cells + mc ≤ R.cells ∧ slots + ms ≤ R.slots) :
    vx_Run p l e R s m args below meth c H locs cells slots mc ms g rest (Qc As.toArray) XC free := by
  have hK : vx_Back l R p e below s args y 3 8 (PreOf R mc ms Pc) (PostOf Qc mc ms free) (vx_Post XC mc ms free) := vx_callBack cw.1 hM hp.1
  obtain ⟨⟨-, -, -, -, -, -, hcode, hini, hy, hlen, hl⟩, hstt⟩ := cw
  obtain ⟨hx, hb, hml, ho, -⟩ := S
  intro T hT X
  rcases vx_callS X hx (bytes := bytes) (maxL := maxL) (ret := ret) ho hl hstt hini hcode hy hK hg (hsize.trans hml.symm) (argsL := As) (rest := rest) (fun sig h => hn.trans (hlen sig h)) hstack hW (by rw [hb]; exact hdg)
    (fun vm₁ hW₁ => ⟨hf.1, hf.2, hp.2 (T.setVm vm₁) hT hW₁⟩) with ⟨v, vm₁, ⟨U', l2, c2, s2⟩, hW₁, X', ⟨g', mk, t, L, e1, e2, hq, h1, hL, h2, h3⟩, st⟩ | ⟨q, vm₁, ⟨U', l2, c2, s2⟩, hW₁, X', ⟨g', mk, t, L, E, ce, e1, e2, hq, hce, hcv, hcl, h1, hL, h2, h3⟩, st⟩
  · dsimp only [Pt.U, Pt.locs, Pt.cells, Pt.slots] at X' e1 e2 h1 h2 h3 st
    subst h1; subst h2; subst h3
    exact Or.inl ⟨v, (T.setVm vm₁).calling g' mk As.toArray, t, U', L, hT, X', hL, e1, e2, hq, st⟩
  · dsimp only [Pt.U, Pt.locs, Pt.cells, Pt.slots] at X' e1 e2 h1 h2 h3 st hcl
    subst h1; subst h2; subst h3
    exact Or.inr ⟨q, (T.setVm vm₁).calling g' mk As.toArray, t, U', L, E, ce, hT, X', hL, e1, e2, hq, hce, hcv, vx_cls hW₁ hcl, st⟩
end Runs
section Rows
variable {p : Program} {l : Launch} {e : Env} {R : Room} {s : State} {m : MethodId} {args : Array Value} {below : List Frame} {meth : Method} {c : Code} {H : Heap} {locs : List Loc} {cells slots : Nat} {Q : State → Prop}
variable {mc ms : Nat} {free : Addr → Prop} {A0 A1 : Nat → Prop} {H0 : Heap} {a : Array Value} {pc : Nat} {ls : Array Slot} {st0 rest : List Value}
theorem vx_keep {st₀ t T' : State} {L : List Loc} (h0 : st₀.heap = H) (e1 : T'.heap = t.heap) (hS : va_S A0 H0 H locs) (hA : ∀ q, q < H.size → A1 q → A0 q) (hf : ∀ q, free q → A0 q) (hL : ∀ q ∈ L, free q.base) (hF : va_F A1 st₀ t) :
    H.size ≤ T'.heap.size ∧ (∀ q : Nat, q < H.size → ¬ A1 q → T'.heap[q]? = H[q]?) ∧ va_S A0 H0 T'.heap (locs ++ L) := by
  obtain ⟨hz, hk⟩ := hF
  rw [h0] at hz hk
  exact ⟨by rw [e1]; exact hz, fun q h1 h2 => by rw [e1]; exact hk q h1 h2,
    ⟨Nat.le_trans hS.1 (by rw [e1]; exact hz), fun q h1 h2 => by rw [e1, hk q (Nat.lt_of_lt_of_le h1 hS.1) (fun z => h2 (hA q (Nat.lt_of_lt_of_le h1 hS.1) z))]; exact hS.2.1 q h1 h2, fun q hq => by
      rcases List.mem_append.mp hq with h | h
      · exact hS.2.2 q h
      · exact hf _ (hL q h)⟩⟩
theorem vx_calli {S SX : Type} {post : Int32 → S → Prop} {px : SX → Prop} {B : S → State → Prop} {BX : String → SX → State → Prop} {AX : Nat → Prop} (hr : vx_Run p l e R s m args below meth c H locs cells slots mc ms (F0 m pc ls st0) rest (va_Qi post B A1 a) (vx_X px BX AX) free) (hS : va_S A0 H0 H locs) (hA : ∀ q, q < H.size → A1 q → A0 q) (hf : ∀ q, free q → A0 q) (hAX : ∀ q, q < H.size → AX q → A0 q)
    (kx : ∀ (E : String) (ce : Cell) (q9 : Addr) (u : SX) (t : State) (H1 : Heap) (locs1 : List Loc), t.heap = H1 → s.vm.Alike t.vm → px u → BX E u t → H.size ≤ H1.size → (∀ q : Nat, q < H.size → ¬ AX q → H1[q]? = H[q]?) → va_S A0 H0 H1 locs1 → H1[q9]? = some ce → ce.vm = .none → s.vm.findClass E = some ce.cls → vx_W p l e R s m args below meth c H1 locs1 (cells + mc) (slots + ms) Q (F0 m pc ls rest) q9)
    (kk : ∀ (r : Int32) (u : S) (t : State) (H1 : Heap) (locs1 : List Loc), t.heap = H1 → s.vm.Alike t.vm → post r u → B u t → H.size ≤ H1.size → (∀ q : Nat, q < H.size → ¬ A1 q → H1[q]? = H[q]?) → va_S A0 H0 H1 locs1 → W p l e R s m args below meth c H1 locs1 (cells + mc) (slots + ms) Q (F0 m (pc + 3) ls (.int r :: rest))) : W p l e R s m args below meth c H locs cells slots Q (F0 m pc ls st0) := by
  intro T hT X
  rcases hr T hT X with ⟨v, st₀, t, T', L, h0, X', hL, e1, e2, ⟨⟨r, u, hv, hp, hb⟩, hF⟩, st⟩ | ⟨q, st₀, t, T', L, E, ce, h0, X', hL, e1, e2, ⟨u, hp, hb, hF⟩, hce, hcv, hcl, st⟩
  · cases hv
    obtain ⟨k1, k2, k3⟩ := vx_keep h0 e1 hS hA hf hL hF
    obtain ⟨t2, a1, b1⟩ := kk r u t T'.heap (locs ++ L) e1.symm (by rw [← e2]; exact X'.warmed.alike) hp hb k1 k2 k3 T' rfl X'
    exact ⟨t2, st t2 a1, b1⟩
  · obtain ⟨k1, k2, k3⟩ := vx_keep h0 e1 hS hAX hf hL hF
    obtain ⟨t2, a1, b1⟩ := kx E ce q u t T'.heap (locs ++ L) e1.symm (by rw [← e2]; exact X'.warmed.alike) hp hb k1 k2 k3 (by rw [e1]; exact hce) hcv hcl T' rfl X'
    exact ⟨t2, st.trans a1, b1⟩
theorem vx_calll {S SX : Type} {post : Int64 → S → Prop} {px : SX → Prop} {B : S → State → Prop} {BX : String → SX → State → Prop} {AX : Nat → Prop} (hr : vx_Run p l e R s m args below meth c H locs cells slots mc ms (F0 m pc ls st0) rest (va_Ql post B A1 a) (vx_X px BX AX) free) (hS : va_S A0 H0 H locs) (hA : ∀ q, q < H.size → A1 q → A0 q) (hf : ∀ q, free q → A0 q) (hAX : ∀ q, q < H.size → AX q → A0 q)
    (kx : ∀ (E : String) (ce : Cell) (q9 : Addr) (u : SX) (t : State) (H1 : Heap) (locs1 : List Loc), t.heap = H1 → s.vm.Alike t.vm → px u → BX E u t → H.size ≤ H1.size → (∀ q : Nat, q < H.size → ¬ AX q → H1[q]? = H[q]?) → va_S A0 H0 H1 locs1 → H1[q9]? = some ce → ce.vm = .none → s.vm.findClass E = some ce.cls → vx_W p l e R s m args below meth c H1 locs1 (cells + mc) (slots + ms) Q (F0 m pc ls rest) q9)
    (kk : ∀ (r : Int64) (u : S) (t : State) (H1 : Heap) (locs1 : List Loc), t.heap = H1 → s.vm.Alike t.vm → post r u → B u t → H.size ≤ H1.size → (∀ q : Nat, q < H.size → ¬ A1 q → H1[q]? = H[q]?) → va_S A0 H0 H1 locs1 → W p l e R s m args below meth c H1 locs1 (cells + mc) (slots + ms) Q (F0 m (pc + 3) ls (.long r :: rest))) : W p l e R s m args below meth c H locs cells slots Q (F0 m pc ls st0) := by
  intro T hT X
  rcases hr T hT X with ⟨v, st₀, t, T', L, h0, X', hL, e1, e2, ⟨⟨r, u, hv, hp, hb⟩, hF⟩, st⟩ | ⟨q, st₀, t, T', L, E, ce, h0, X', hL, e1, e2, ⟨u, hp, hb, hF⟩, hce, hcv, hcl, st⟩
  · cases hv
    obtain ⟨k1, k2, k3⟩ := vx_keep h0 e1 hS hA hf hL hF
    obtain ⟨t2, a1, b1⟩ := kk r u t T'.heap (locs ++ L) e1.symm (by rw [← e2]; exact X'.warmed.alike) hp hb k1 k2 k3 T' rfl X'
    exact ⟨t2, st t2 a1, b1⟩
  · obtain ⟨k1, k2, k3⟩ := vx_keep h0 e1 hS hAX hf hL hF
    obtain ⟨t2, a1, b1⟩ := kx E ce q u t T'.heap (locs ++ L) e1.symm (by rw [← e2]; exact X'.warmed.alike) hp hb k1 k2 k3 (by rw [e1]; exact hce) hcv hcl T' rfl X'
    exact ⟨t2, st.trans a1, b1⟩
theorem vx_callf {S SX : Type} {post : UInt32 → S → Prop} {px : SX → Prop} {B : S → State → Prop} {BX : String → SX → State → Prop} {AX : Nat → Prop} (hr : vx_Run p l e R s m args below meth c H locs cells slots mc ms (F0 m pc ls st0) rest (va_Qf post B A1 a) (vx_X px BX AX) free) (hS : va_S A0 H0 H locs) (hA : ∀ q, q < H.size → A1 q → A0 q) (hf : ∀ q, free q → A0 q) (hAX : ∀ q, q < H.size → AX q → A0 q)
    (kx : ∀ (E : String) (ce : Cell) (q9 : Addr) (u : SX) (t : State) (H1 : Heap) (locs1 : List Loc), t.heap = H1 → s.vm.Alike t.vm → px u → BX E u t → H.size ≤ H1.size → (∀ q : Nat, q < H.size → ¬ AX q → H1[q]? = H[q]?) → va_S A0 H0 H1 locs1 → H1[q9]? = some ce → ce.vm = .none → s.vm.findClass E = some ce.cls → vx_W p l e R s m args below meth c H1 locs1 (cells + mc) (slots + ms) Q (F0 m pc ls rest) q9)
    (kk : ∀ (r : UInt32) (u : S) (t : State) (H1 : Heap) (locs1 : List Loc), t.heap = H1 → s.vm.Alike t.vm → post r u → B u t → H.size ≤ H1.size → (∀ q : Nat, q < H.size → ¬ A1 q → H1[q]? = H[q]?) → va_S A0 H0 H1 locs1 → W p l e R s m args below meth c H1 locs1 (cells + mc) (slots + ms) Q (F0 m (pc + 3) ls (.float r :: rest))) : W p l e R s m args below meth c H locs cells slots Q (F0 m pc ls st0) := by
  intro T hT X
  rcases hr T hT X with ⟨v, st₀, t, T', L, h0, X', hL, e1, e2, ⟨⟨r, u, hv, hp, hb⟩, hF⟩, st⟩ | ⟨q, st₀, t, T', L, E, ce, h0, X', hL, e1, e2, ⟨u, hp, hb, hF⟩, hce, hcv, hcl, st⟩
  · cases hv
    obtain ⟨k1, k2, k3⟩ := vx_keep h0 e1 hS hA hf hL hF
    obtain ⟨t2, a1, b1⟩ := kk r u t T'.heap (locs ++ L) e1.symm (by rw [← e2]; exact X'.warmed.alike) hp hb k1 k2 k3 T' rfl X'
    exact ⟨t2, st t2 a1, b1⟩
  · obtain ⟨k1, k2, k3⟩ := vx_keep h0 e1 hS hAX hf hL hF
    obtain ⟨t2, a1, b1⟩ := kx E ce q u t T'.heap (locs ++ L) e1.symm (by rw [← e2]; exact X'.warmed.alike) hp hb k1 k2 k3 (by rw [e1]; exact hce) hcv hcl T' rfl X'
    exact ⟨t2, st.trans a1, b1⟩
theorem vx_calld {S SX : Type} {post : UInt64 → S → Prop} {px : SX → Prop} {B : S → State → Prop} {BX : String → SX → State → Prop} {AX : Nat → Prop} (hr : vx_Run p l e R s m args below meth c H locs cells slots mc ms (F0 m pc ls st0) rest (va_Qd post B A1 a) (vx_X px BX AX) free) (hS : va_S A0 H0 H locs) (hA : ∀ q, q < H.size → A1 q → A0 q) (hf : ∀ q, free q → A0 q) (hAX : ∀ q, q < H.size → AX q → A0 q)
    (kx : ∀ (E : String) (ce : Cell) (q9 : Addr) (u : SX) (t : State) (H1 : Heap) (locs1 : List Loc), t.heap = H1 → s.vm.Alike t.vm → px u → BX E u t → H.size ≤ H1.size → (∀ q : Nat, q < H.size → ¬ AX q → H1[q]? = H[q]?) → va_S A0 H0 H1 locs1 → H1[q9]? = some ce → ce.vm = .none → s.vm.findClass E = some ce.cls → vx_W p l e R s m args below meth c H1 locs1 (cells + mc) (slots + ms) Q (F0 m pc ls rest) q9)
    (kk : ∀ (r : UInt64) (u : S) (t : State) (H1 : Heap) (locs1 : List Loc), t.heap = H1 → s.vm.Alike t.vm → post r u → B u t → H.size ≤ H1.size → (∀ q : Nat, q < H.size → ¬ A1 q → H1[q]? = H[q]?) → va_S A0 H0 H1 locs1 → W p l e R s m args below meth c H1 locs1 (cells + mc) (slots + ms) Q (F0 m (pc + 3) ls (.double r :: rest))) : W p l e R s m args below meth c H locs cells slots Q (F0 m pc ls st0) := by
  intro T hT X
  rcases hr T hT X with ⟨v, st₀, t, T', L, h0, X', hL, e1, e2, ⟨⟨r, u, hv, hp, hb⟩, hF⟩, st⟩ | ⟨q, st₀, t, T', L, E, ce, h0, X', hL, e1, e2, ⟨u, hp, hb, hF⟩, hce, hcv, hcl, st⟩
  · cases hv
    obtain ⟨k1, k2, k3⟩ := vx_keep h0 e1 hS hA hf hL hF
    obtain ⟨t2, a1, b1⟩ := kk r u t T'.heap (locs ++ L) e1.symm (by rw [← e2]; exact X'.warmed.alike) hp hb k1 k2 k3 T' rfl X'
    exact ⟨t2, st t2 a1, b1⟩
  · obtain ⟨k1, k2, k3⟩ := vx_keep h0 e1 hS hAX hf hL hF
    obtain ⟨t2, a1, b1⟩ := kx E ce q u t T'.heap (locs ++ L) e1.symm (by rw [← e2]; exact X'.warmed.alike) hp hb k1 k2 k3 (by rw [e1]; exact hce) hcv hcl T' rfl X'
    exact ⟨t2, st.trans a1, b1⟩
theorem vx_callv {S SX : Type} {post : S → Prop} {px : SX → Prop} {B : S → State → Prop} {BX : String → SX → State → Prop} {AX : Nat → Prop} (hr : vx_Run p l e R s m args below meth c H locs cells slots mc ms (F0 m pc ls st0) rest (va_Qv post B A1 a) (vx_X px BX AX) free) (hS : va_S A0 H0 H locs) (hA : ∀ q, q < H.size → A1 q → A0 q) (hf : ∀ q, free q → A0 q) (hAX : ∀ q, q < H.size → AX q → A0 q)
    (kx : ∀ (E : String) (ce : Cell) (q9 : Addr) (u : SX) (t : State) (H1 : Heap) (locs1 : List Loc), t.heap = H1 → s.vm.Alike t.vm → px u → BX E u t → H.size ≤ H1.size → (∀ q : Nat, q < H.size → ¬ AX q → H1[q]? = H[q]?) → va_S A0 H0 H1 locs1 → H1[q9]? = some ce → ce.vm = .none → s.vm.findClass E = some ce.cls → vx_W p l e R s m args below meth c H1 locs1 (cells + mc) (slots + ms) Q (F0 m pc ls rest) q9)
    (kk : ∀ (u : S) (t : State) (H1 : Heap) (locs1 : List Loc), t.heap = H1 → s.vm.Alike t.vm → post u → B u t → H.size ≤ H1.size → (∀ q : Nat, q < H.size → ¬ A1 q → H1[q]? = H[q]?) → va_S A0 H0 H1 locs1 → W p l e R s m args below meth c H1 locs1 (cells + mc) (slots + ms) Q (F0 m (pc + 3) ls (rest))) : W p l e R s m args below meth c H locs cells slots Q (F0 m pc ls st0) := by
  intro T hT X
  rcases hr T hT X with ⟨v, st₀, t, T', L, h0, X', hL, e1, e2, ⟨⟨u, hv, hp, hb⟩, hF⟩, st⟩ | ⟨q, st₀, t, T', L, E, ce, h0, X', hL, e1, e2, ⟨u, hp, hb, hF⟩, hce, hcv, hcl, st⟩
  · cases hv
    obtain ⟨k1, k2, k3⟩ := vx_keep h0 e1 hS hA hf hL hF
    obtain ⟨t2, a1, b1⟩ := kk u t T'.heap (locs ++ L) e1.symm (by rw [← e2]; exact X'.warmed.alike) hp hb k1 k2 k3 T' rfl X'
    exact ⟨t2, st t2 a1, b1⟩
  · obtain ⟨k1, k2, k3⟩ := vx_keep h0 e1 hS hAX hf hL hF
    obtain ⟨t2, a1, b1⟩ := kx E ce q u t T'.heap (locs ++ L) e1.symm (by rw [← e2]; exact X'.warmed.alike) hp hb k1 k2 k3 (by rw [e1]; exact hce) hcv hcl T' rfl X'
    exact ⟨t2, st.trans a1, b1⟩
/-- caught by the row x of this method's table; the rows ahead don't take it -/
theorem vx_catch {own name : String} {E : String} {ce : Cell} {q : Addr} (hown : s.vm.findClass own = some m.cls) (pre : List ExceptionTableEntry) (x : ExceptionTableEntry) (suf : List ExceptionTableEntry) (hsplit : c.exceptionTable.toList = pre ++ x :: suf)
    (hpass : ∀ z ∈ pre, covers z pc = false ∨ (z.catchType ≠ 0 ∧ ∃ nm : String, (Cond.classLink own z.catchType nm).before args s = true ∧ va_Nc E nm s)) (hx : covers x pc = true) (h0 : x.catchType ≠ 0)
    (hlink : (Cond.classLink own x.catchType name).before args s = true) (hcast : (Cond.castable E name).before args s = true) (hcell : H[q]? = some ce) (hv : ce.vm = .none) (hcl : s.vm.findClass E = some ce.cls)
    (kk : W p l e R s m args below meth c H locs cells slots Q (F0 m x.handlerPc ls [.ref q])) : vx_W p l e R s m args below meth c H locs cells slots Q (F0 m pc ls rest) q := by
  intro T hT X
  have hpl : e.platform.magicAccessors = ({} : Platform).magicAccessors := by rw [X.admits.platform]
  obtain ⟨c3, c4, hc3, hc4, hasg⟩ := Cond.castable_spec hcast
  cases Option.some.inj (hc3.symm.trans hcl)
  obtain ⟨c5, hc5, hcl5⟩ := Cond.classLink_spec hown hlink e.platform hpl
  cases Option.some.inj (hc4.symm.trans hc5)
  obtain ⟨vm', X', st⟩ := X.thenCaughtThrough q (g := F0 m pc ls rest) rfl (Steps.refl _) (by rw [hT]; exact hcell) (by rw [hv]; rfl) (by obtain ⟨k9, h9, -⟩ := Vm.findClass_spec hcl; exact ⟨k9, h9⟩) pre x suf hsplit
    (fun z hz => by
      rcases hpass z hz with h | ⟨hz0, nm, hl1, hn1⟩
      · exact Or.inl h
      · obtain ⟨c6, hc6, hcl6⟩ := Cond.classLink_spec hown hl1 e.platform hpl
        obtain ⟨a8, b8, h1, h2, h3⟩ := hn1
        cases Option.some.inj (h1.symm.trans hcl)
        cases Option.some.inj (h2.symm.trans hc6)
        exact Or.inr ⟨hz0, _, hcl6, h3⟩) hx (Or.inr ⟨h0, c4, hcl5, hasg⟩)
  obtain ⟨t, a1, b1⟩ := kk (T.setVm vm') hT X'
  exact ⟨t, st.trans a1, b1⟩
end Rows
section Ends
variable {p : Program} {l : Launch} {e : Env} {R : Room} {s : State} {m : MethodId} {args : Array Value} {below : List Frame} {meth : Method} {c : Code} {H : Heap} {locs : List Loc} {cells slots : Nat} {Q : State → Prop}
variable {mc ms : Nat} {free : Addr → Prop} {A0 A1 : Nat → Prop} {H0 : Heap} {a : Array Value} {ls : Array Slot} {st0 rest : List Value}
variable {Qc : Array Value → State → Outcome → State → Prop} {XC : String → State → State → Prop}
/-- what a body that may throw owes at its end -/
def vx_MQ (below : List Frame) (Qc : Array Value → State → Outcome → State → Prop) (XC : String → State → State → Prop) (a : Array Value) (s : State) (mc ms : Nat) (free : Addr → Prop) : State → Prop := fun t =>
  ∃ o, t.status = .running ∧ Ended t below o ∧ vx_Q Qc XC mc ms free a s o t
theorem vx_ret {g : JFrame} {mc ms : Nat} (k : W p l e R s m args below meth c H locs cells slots (MQ below Qc args s mc ms free) g) : W p l e R s m args below meth c H locs cells slots (vx_MQ below Qc XC args s mc ms free) g := by
  intro T hT X
  obtain ⟨t, a1, o, b1, b2, b3, b4⟩ := k T hT X
  exact ⟨t, a1, o, b1, b2, Or.inl ⟨b3, b4⟩⟩
/-- not caught here: it goes on to the caller -/
theorem vx_widen {g : JFrame} {q : Addr} {k n : Nat} (h1 : cells ≤ k) (h2 : slots ≤ n) (kk : vx_W p l e R s m args below meth c H locs k n Q g q) : vx_W p l e R s m args below meth c H locs cells slots Q g q := fun T hT X => kk T hT (stand_widen X h1 h2)
theorem vx_out {pc : Nat} {E : String} {ce : Cell} {q : Addr} {mc ms : Nat} (hout : ∀ x ∈ c.exceptionTable.toList, covers x pc = false) (hlocks : meth.locks = false) (hcell : H[q]? = some ce) (hv : ce.vm = .none) (hcl : s.vm.findClass E = some ce.cls)
    (hx : ∀ t : State, t.heap = H → s.vm.Alike t.vm → XC E s t) (hf : ∀ z ∈ locs, free z.base) (hc : cells ≤ mc) (hs : slots ≤ ms) :
    vx_W p l e R s m args below meth c H locs cells slots (vx_MQ below Qc XC args s mc ms free) (F0 m pc ls rest) q := by
  intro T hT X
  obtain ⟨st1, hrun, hend, hW, hsm⟩ := X.leaveThrown q (g := F0 m pc ls rest) rfl rfl rfl hout hlocks
  have hcell9 : (T.setFrames (.throwing q :: below)).heap[q]? = some ce := by
    show T.heap[q]? = some ce
    rw [hT]; exact hcell
  exact ⟨_, st1, .threw q, hrun, hend, Or.inr ⟨q, rfl, E, ce, locs, hx _ hT hW.alike, hcell9, hv, hcl, hW, hsm.mono hc hs, hf⟩⟩
theorem vx_frame {U : State} {k n : Nat} (h : s.sameButNew ({ U with vm := s.vm } : State) locs k n) : s.heap.size ≤ U.heap.size ∧ ∀ q : Nat, q < s.heap.size → (∀ z ∈ locs, z.base ≠ q) → U.heap[q]? = s.heap[q]? := by
  obtain ⟨-, h2, -, -, -, h6⟩ := h
  refine ⟨h2, fun q hq hz => ?_⟩
  obtain ⟨c9, e1, e2, e3, e4⟩ := h6 q _ (Array.getElem?_eq_getElem hq)
  have hs : c9.slots = (s.heap[q]).slots := Array.ext_getElem? fun i => e4 i fun hm => hz _ hm rfl
  have h9 : c9 = s.heap[q] := by
    rw [hs] at e2
    exact e2
  have e5 : U.heap[q]? = some c9 := e1
  rw [e5, h9, Array.getElem?_eq_getElem hq]
/-- the words of a throw but the four that speak of the heap -/
def vx_no (w : Cond) : Bool := decide (w ≠ .isRef (.static Bundle.tN "UNASSIGNED_STACK" Bundle.steD)) && decide (w ≠ .isRef (.static Bundle.tN "SUPPRESSED_SENTINEL" Bundle.listD)) && decide (w ≠ .laysStatic Bundle.tN "UNASSIGNED_STACK" Bundle.steD) && decide (w ≠ .laysStatic Bundle.tN "SUPPRESSED_SENTINEL" Bundle.listD)
def vx_at0 (own : String) (ic : Nat) (X : String) (names : List String) : List Cond := (Bundle.ownAtoms0 own ic X names).filter vx_no
def vx_atS (own : String) (ic : Nat) (X : String) (names : List String) : List Cond := (Bundle.ownAtoms own ic X names).filter vx_no
/-- a word that the tables alone decide, or a good one -/
def vx_ot (w : Cond) : Bool := w.onTables || goodWord w
theorem vx_ot_at {args a' : Array Value} {s U : State} {w : Cond} (hW : s.WarmedH U.vm) (hvm : s.vm = U.vm) (hg : vx_ot w = true) (h : w.before args s = true) : w.before a' U = true := by
  simp only [vx_ot, Bool.or_eq_true] at hg
  rcases hg with hg | hg
  · exact va_tabs hg hvm h
  · exact word_at hW (good_of_word hg) h
/-- a list's words: the good ones out of the method's own list, the others by premises of their own -/
theorem vx_hat {args : Array Value} {s : State} {L B : List Cond} (h1 : ∀ w ∈ L.filter goodWord, w.before args s = true) (h2 : ∀ w ∈ L.filter (fun w => !goodWord w), w ∈ B) (h3 : ∀ w ∈ B, w.before args s = true) : ∀ w ∈ L, w.before args s = true := by
  intro w hw
  by_cases g : goodWord w = true
  · exact h1 w (List.mem_filter.mpr ⟨hw, g⟩)
  · refine h3 w (h2 w (List.mem_filter.mpr ⟨hw, ?_⟩))
    show (!goodWord w) = true
    cases hgw : goodWord w
    · rfl
    · exact absurd hgw g
theorem vx_c {args : Array Value} {s : State} {w : Cond} {B : List Cond} (h : w.before args s = true) (t : ∀ w ∈ B, w.before args s = true) : ∀ w' ∈ w :: B, w'.before args s = true := fun w' h' => (List.mem_cons.mp h').elim (fun e => by rw [e]; exact h) (t w')
theorem vx_n {args : Array Value} {s : State} : ∀ w ∈ ([] : List Cond), w.before args s = true := fun _ h => nomatch h
theorem vx_own {args : Array Value} {s : State} {L : List Cond} (h1 : ∀ w ∈ L.filter vx_no, w.before args s = true)
    (hU : (Cond.isRef (.static Bundle.tN "UNASSIGNED_STACK" Bundle.steD)).before args s = true) (hN : (Cond.isRef (.static Bundle.tN "SUPPRESSED_SENTINEL" Bundle.listD)).before args s = true)
    (lU : (Cond.laysStatic Bundle.tN "UNASSIGNED_STACK" Bundle.steD).before args s = true) (lN : (Cond.laysStatic Bundle.tN "SUPPRESSED_SENTINEL" Bundle.listD).before args s = true) : ∀ w ∈ L, w.before args s = true := by
  intro w hw
  by_cases e1 : w = .isRef (.static Bundle.tN "UNASSIGNED_STACK" Bundle.steD)
  · rw [e1]; exact hU
  · by_cases e2 : w = .isRef (.static Bundle.tN "SUPPRESSED_SENTINEL" Bundle.listD)
    · rw [e2]; exact hN
    · by_cases e3 : w = .laysStatic Bundle.tN "UNASSIGNED_STACK" Bundle.steD
      · rw [e3]; exact lU
      · by_cases e4 : w = .laysStatic Bundle.tN "SUPPRESSED_SENTINEL" Bundle.listD
        · rw [e4]; exact lN
        · exact h1 w (List.mem_filter.mpr ⟨hw, by unfold vx_no; rw [decide_eq_true e1, decide_eq_true e2, decide_eq_true e3, decide_eq_true e4]; rfl⟩)
/-- where a static field lies, its class's statics cell in H -/
def vx_L (C n d : String) (A : Nat → Prop) (U : State) (H : Heap) : Prop := ∃ (c : ClassId) (k : Class) (i : Nat) (f : Field) (a : Nat) (cell : Cell), U.vm.findClass C = some c ∧ U.fieldFound? C n d = some (c, k, i, f) ∧ f.isStatic = true ∧ k.statics = some a ∧ H[a]? = some cell ∧ cell.vm.isStatics = true ∧ cell.cls = c ∧ f.slot < cell.slots.size ∧ k.staticTypes[f.slot]? = some f.type ∧ ¬ A a
theorem vx_L.moved {C n d : String} {A : Nat → Prop} {u U : State} {H : Heap} (hvm : u.vm.Alike U.vm) (h : vx_L C n d A u H) : vx_L C n d A U H := by
  obtain ⟨c, k, i, f, a, cell, h1, h2, h3, h4, h5, h6, h7, h8, h9, h10⟩ := h
  obtain ⟨k', hi', he⟩ := State.fieldFound?_setVm hvm h2
  exact ⟨c, k', i, f, a, cell, by rw [hvm.findClass]; exact h1, hi', h3, by rw [he]; exact h4, h5, h6, h7, h8, by rw [he]; exact h9, h10⟩
theorem vx_L.kept {C n d : String} {A : Nat → Prop} {U : State} {H H1 : Heap} (h : vx_L C n d A U H) (hq : ∀ a : Nat, a < H.size → ¬ A a → H1[a]? = H[a]?) : vx_L C n d A U H1 := by
  obtain ⟨c, k, i, f, a, cell, h1, h2, h3, h4, h5, h6, h7, h8, h9, h10⟩ := h
  exact ⟨c, k, i, f, a, cell, h1, h2, h3, h4, by rw [hq a (Array.getElem?_eq_some_iff.mp h5).1 h10]; exact h5, h6, h7, h8, h9, h10⟩
theorem vx_L.narrow {C n d : String} {A B : Nat → Prop} {U : State} {H : Heap} (h : vx_L C n d A U H) (hAB : ∀ q, B q → A q) : vx_L C n d B U H := by
  obtain ⟨c, k, i, f, a, cell, h1, h2, h3, h4, h5, h6, h7, h8, h9, h10⟩ := h
  exact ⟨c, k, i, f, a, cell, h1, h2, h3, h4, h5, h6, h7, h8, h9, fun z => h10 (hAB _ z)⟩
theorem vx_L.word {C n d : String} {A : Nat → Prop} {s : State} {args : Array Value} (h : vx_L C n d A s s.heap) : (Cond.laysStatic C n d).before args s = true := by
  obtain ⟨c, k, i, f, a, cell, h1, h2, h3, h4, h5, h6, h7, h8, h9, -⟩ := h
  show (Cond.laysStatic C n d).holds args s none s [] = true
  exact Cond.laysStatic_of h1 h2 h3 h4 h5 h6 h7 h8 h9
/-- .. and what it holds: null or some reference -/
def vx_Zq (C n d : String) (A : Nat → Prop) (U : State) (H : Heap) : Prop := va_Zq C n d A U H ∧ vx_L C n d A U H
theorem vx_Zq.moved {C n d : String} {A : Nat → Prop} {u U : State} {H : Heap} (hvm : u.vm.Alike U.vm) (h : vx_Zq C n d A u H) : vx_Zq C n d A U H := ⟨va_Zq.moved hvm h.1, vx_L.moved hvm h.2⟩
theorem vx_Zq.kept {C n d : String} {A : Nat → Prop} {U : State} {H H1 : Heap} (h : vx_Zq C n d A U H) (hq : ∀ a : Nat, a < H.size → ¬ A a → H1[a]? = H[a]?) : vx_Zq C n d A U H1 := ⟨va_Zq.kept h.1 hq, vx_L.kept h.2 hq⟩
theorem vx_Zq.narrow {C n d : String} {A B : Nat → Prop} {U : State} {H : Heap} (h : vx_Zq C n d A U H) (hAB : ∀ q, B q → A q) : vx_Zq C n d B U H := ⟨va_Zq.narrow h.1 hAB, vx_L.narrow h.2 hAB⟩
theorem vx_Zqof {args : Array Value} {s : State} {C n d : String} {A : Nat → Prop} (hl : (Cond.laysStatic C n d).before args s = true) (hini : (Cond.initialized C).before args s = true) (h : (Cond.isRef (.static C n d)).before args s = true) (hA : ∀ a : Nat, a < s.heap.size → ¬ A a) : vx_Zq C n d A s s.heap := by
  refine ⟨va_Zqof hl hini h hA, ?_⟩
  obtain ⟨c, k, i, f, a, cell, h1, h2, h3, h4, h5, h6, h7, h8, h9⟩ := Cond.laysStatic_spec hl
  exact ⟨c, k, i, f, a, cell, h1, h2, h3, h4, h5, h6, h7, h8, h9, hA a (Array.getElem?_eq_some_iff.mp h5).1⟩
theorem vx_isRef {C n d : String} {v : Value} {A : Nat → Prop} {s : State} {args : Array Value} (h : va_Z C n d v A s s.heap) (hv : v.isRef = true) : (Cond.isRef (.static C n d)).before args s = true := by
  obtain ⟨cf, kf, fi, f, a, cell, h1, h2, h3, h4, h5, h6, h7, -⟩ := h
  have he : (Term.static C n d).eval args s none [] s = some v := by
    simp [Term.eval, State.fieldNamed?, h1, h2, h4, h5, h6, h7]
  simp only [Cond.before, Cond.holds, Cond.value, he]
  cases v <;> simp_all [Value.isRef]
theorem vx_isRefq {C n d : String} {A : Nat → Prop} {s : State} {args : Array Value} (h : va_Zq C n d A s s.heap) : (Cond.isRef (.static C n d)).before args s = true := by
  rcases h with h | ⟨t, h⟩
  · exact vx_isRef h rfl
  · exact vx_isRef h rfl
/-- the same frame, seen from here: as if the method were called anew in this heap -/
theorem vx_rebase {T : State} (X : Stand p l e R s m args below meth c T locs cells slots) {R' : Room} (hf : R'.frames ≤ R.frames) (hl : R'.locals ≤ R.locals) (hc : cells + R'.cells ≤ R.cells) (hs : slots + R'.slots ≤ R.slots) :
    Stand p l e R' ((T.setVm s.vm).setFrames (.invoking m args :: below)) m args below meth c T [] 0 0 := by
  have htop : (T.setVm s.vm).topJava?.isSome := X.here.top
  have hF : ((T.setVm s.vm).setFrames (.invoking m args :: below)).frames = .invoking m args :: below := State.frames_setFrames _ (State.cur_lt_of_top htop)
  obtain ⟨g₀, hg0⟩ := Option.isSome_iff_exists.mp htop
  obtain ⟨r, hr⟩ := State.topJava?_eq_some.mp hg0
  have hl9 : e.platform.stackLimits (T.setVm s.vm).me = e.platform.stackLimits s.me := X.limits
  have hb9 : (T.setVm s.vm).me.stackBytes = s.me.stackBytes := X.bytes
  refine ⟨X.admits, X.cas, X.clock, hF, ?_, X.hears, X.method, X.code, X.here, X.tail, X.warmed, ?_, ?_, ?_⟩
  · have h := X.room
    have hU : ((T.setVm s.vm).setFrames (.invoking m args :: below)).localsInUse = s.localsInUse := by
      rw [State.localsInUse_invoking hF (meth := meth) (c := c) X.method X.code, State.localsInUse_invoking X.frames X.method X.code]
    simp only [State.hasRoom, Bool.and_eq_true, decide_eq_true_eq] at h ⊢
    obtain ⟨⟨⟨⟨h1, h2, h3, h4, h5, h6⟩, h7⟩, h8⟩, h9⟩ := h
    rw [X.frames, List.length_cons] at h2 h3
    have q1 := X.heapSize
    have q2 := X.used
    simp only [hF, hU, List.length_cons, State.stackLimits_setFrames, State.stackBytes_setFrames, hl9, hb9]
    refine ⟨⟨⟨⟨by omega, by omega, by omega, by omega, by omega, h6⟩, ?_⟩, ?_⟩, X.book⟩
    · show T.heap.size + R'.cells ≤ e.platform.maxCells
      omega
    · show T.slotsUsed + R'.slots ≤ e.platform.maxSlots
      omega
  · rw [State.stackLimits_setFrames]; rfl
  · rw [State.stackBytes_setFrames]; rfl
  · refine ⟨?_, Nat.le_refl _, Nat.le_refl _, ?_, ?_, fun a c9 h9 => ⟨c9, h9, rfl, rfl, fun _ _ => rfl⟩⟩
    · obtain ⟨t, ht, -⟩ := State.frames_cons hr
      show T.setVm s.vm = { ((T.setVm s.vm).setFrames (.invoking m args :: below)).setFrames (T.setVm s.vm).frames with heap := T.heap, slotsUsed := T.slotsUsed }
      rw [State.setFrames_setFrames, State.setFrames_self ht]
      rfl
    · show T.slotsUsed = T.slotsUsed + ((T.heap.toList.drop T.heap.size).map (·.slots.size)).sum
      rw [List.drop_eq_nil_of_le (Nat.le_of_eq Array.length_toList)]
      rfl
    · show ((T.heap.toList.drop T.heap.size).map (·.slots.size)).sum ≤ 0
      rw [List.drop_eq_nil_of_le (Nat.le_of_eq Array.length_toList)]
      exact Nat.le_refl _
/-- 'throw new E()': new; dup; invokespecial; athrow -/
theorem vx_throw0 {cc : ByteArray} {pc : Nat} (hexec : p.tables.exec = Jvm.exec) (hb : c.code = cc) (hl : l.stackTraces = false) {own cls : String} {names : List String} {ik ic mc ms : Nat} {A : Nat → Prop}
    (hown : s.vm.findClass own = some m.cls) (hcls : Bundle.fit cls = true) (hnames : ∀ n ∈ names, Bundle.fit n = true)
    (hk : (Cond.classLink own ik cls).before args s = true) (hini : (Cond.initialized cls).before args s = true) (hat : ∀ w ∈ vx_at0 own ic cls names, w.before args s = true)
    (hgood : ∀ w ∈ Cond.classLink own ik cls :: Cond.initialized cls :: vx_at0 own ic cls names, vx_ot w = true)
    (hU : vx_Zq Bundle.tN "UNASSIGNED_STACK" Bundle.steD A s s.heap) (hN : vx_Zq Bundle.tN "SUPPRESSED_SENTINEL" Bundle.listD A s s.heap) (hS : va_S A s.heap H locs) (hsize : ls.size = c.maxLocals)
    (d0 : decode cc pc = .ok (.new ik, 3)) (d3 : decode cc (pc + 3) = .ok (.dup, 1)) (d4 : decode cc (pc + 4) = .ok (.invokespecial ic, 3)) (d7 : decode cc (pc + 7) = .ok (.athrow, 1))
    (hout : ∀ x ∈ c.exceptionTable.toList, covers x (pc + 7) = false)
    (hRframes : names.length + 3 < R.frames) (hRlocals : (rest.map fun v => v.category).sum + (13 * (names.length + 1) + 42) ≤ R.locals) (hRcells : cells + 1 ≤ R.cells) (hRslots : slots + 6 ≤ R.slots) (hlocks : meth.locks = false)
    (hx : ∀ t : State, s.vm.Alike t.vm → H.size ≤ t.heap.size → (∀ q : Nat, q < H.size → t.heap[q]? = H[q]?) → XC cls s t)
    (hf : ∀ z ∈ locs, free z.base) (hc : cells + 1 ≤ mc) (hs : slots + 6 ≤ ms) :
    W p l e R s m args below meth c H locs cells slots (vx_MQ below Qc XC args s mc ms free) (F0 m pc ls rest) := by
  intro T hT X
  have htr : e.platform.stackTraces = false := (show e.platform.stackTraces = l.stackTraces by rw [X.admits.platform]).trans hl
  have Y := vx_rebase X (R' := { frames := R.frames, locals := R.locals, cells := 1, slots := 6 }) (Nat.le_refl _) (Nat.le_refl _) hRcells hRslots
  obtain ⟨s', hA⟩ : ∃ z, z = (T.setVm s.vm).setFrames (.invoking m args :: below) := ⟨_, rfl⟩
  rw [← hA] at Y
  have hvm : s'.vm = s.vm := by rw [hA]; rfl
  have hhp : s'.heap = H := by rw [hA]; exact hT
  have hW0 : s.WarmedH s'.vm := by rw [hvm]; exact State.WarmedH.refl s
  have hat' : ∀ w ∈ vx_at0 own ic cls names, w.before args s' = true := fun w hw => vx_ot_at hW0 hvm.symm (hgood w (List.mem_cons_of_mem _ (List.mem_cons_of_mem _ hw))) (hat w hw)
  have hk' : (Cond.classLink own ik cls).before args s' = true := vx_ot_at hW0 hvm.symm (hgood _ List.mem_cons_self) hk
  have hini' : (Cond.initialized cls).before args s' = true := vx_ot_at hW0 hvm.symm (hgood _ (List.mem_cons_of_mem _ List.mem_cons_self)) hini
  have hU' : vx_Zq Bundle.tN "UNASSIGNED_STACK" Bundle.steD A s' s'.heap := by rw [hhp]; exact vx_Zq.moved hW0.alike (hU.kept hS.2.1)
  have hN' : vx_Zq Bundle.tN "SUPPRESSED_SENTINEL" Bundle.listD A s' s'.heap := by rw [hhp]; exact vx_Zq.moved hW0.alike (hN.kept hS.2.1)
  have h : ∀ w ∈ Bundle.ownAtoms0 own ic cls names, w.before args s' = true := vx_own hat' (vx_isRefq hU'.1) (vx_isRefq hN'.1) hU'.2.word hN'.2.word
  have hown' : s'.vm.findClass own = some m.cls := by rw [hvm]; exact hown
  have hins : (Cond.instantiable cls 6).before args s' = true := h _ (by simp [Bundle.ownAtoms0])
  obtain ⟨vm₁, cX, kX, hfX, hkX, -, -, X₁, st1⟩ := Y.newCold hexec (own := own) (C := cls) (index := ik) (n := 6) hown' hk' hins hini'
    (g := F0 m pc ls rest) rfl (by rw [hb]; exact d0) (Nat.le_refl _) (Nat.le_refl _)
  generalize hT1 : (T.setVm vm₁).pushCell { cls := cX, slots := kX.instanceTypes.map defaultValue, vm := .none } = T1 at X₁ st1
  have hcat : (Value.ref T.heap.size).category = 1 := rfl
  have hcellA : T1.heap[T.heap.size]? = some (freshCell cX kX) := by rw [← hT1]; exact State.heap_pushCell_size _ _
  have d3' : decode c.code (pc + 3) = .ok (.dup, 1) := by rw [hb]; exact d3
  obtain ⟨U, hsteps, hrun, hend, hW, hsame, ce, hce, hO⟩ := X₁.ctorThrow0 hexec htr (own := own) (cls := cls) (names := names) (ic := ic) hown' hcls hnames h (fun x hx => nomatch hx) hfX hkX hcellA (by rw [hhp, hT]; exact Nat.le_refl _)
    (g := { method := m, pc := pc + 4, locals := ls, stack := .ref T.heap.size :: .ref T.heap.size :: rest, locked := none }) rfl hsize rfl rfl (rest := rest) rfl
    (by rw [hb]; exact d4) (by rw [hb]; exact d7) hout hRframes (by simp only [List.map_cons, List.sum_cons, hcat]; omega) hlocks
  obtain ⟨f1, f2⟩ := vx_frame hsame
  rw [hhp] at f1 f2
  have hWs : s.WarmedH U.vm := State.WarmedH.trans hW0 hW
  have hcl : s.vm.findClass cls = some ce.cls := by
    have h9 := hO.cls
    rw [hvm] at h9
    exact h9
  have hall : s.sameButNew ({ U with vm := s.vm } : State) locs mc ms := by
    subst hA
    obtain ⟨e1, e2⟩ := hsame
    rw [State.setFrames_setFrames] at e1
    have h2 : (T.setVm s.vm).sameButNew ({ U with vm := s.vm } : State) [] (0 + 1) (0 + 6) := ⟨e1, e2⟩
    have h3 := X.same.trans h2
    rw [List.append_nil] at h3
    exact h3.mono hc hs
  refine ⟨U, ?_, .threw T.heap.size, hrun, hend, Or.inr ⟨T.heap.size, rfl, cls, ce, locs, hx U hWs.alike f1 (fun q hq => f2 q hq (fun z hz => nomatch hz)), hce, hO.vm, hcl, hWs, hall, hf⟩⟩
  refine st1 _ ?_
  show Steps p.tables e below (T1.setTop { method := m, pc := pc + 3, locals := ls, stack := .ref T.heap.size :: rest, locked := none }) _
  jvm_step X₁.here [X₁.here.top, hexec, d3', Value.category]
  exact hsteps
/-- 'throw new E("text")': new; dup; ldc; invokespecial; athrow -/
theorem vx_throwS {cc : ByteArray} {pc : Nat} (hexec : p.tables.exec = Jvm.exec) (hb : c.code = cc) (hl : l.stackTraces = false) {own cls text : String} {names : List String} {ik is ic mc ms sa : Nat} {A : Nat → Prop}
    (hown : s.vm.findClass own = some m.cls) (hcls : Bundle.fit cls = true) (hnames : ∀ n ∈ names, Bundle.fit n = true)
    (hk : (Cond.classLink own ik cls).before args s = true) (hini : (Cond.initialized cls).before args s = true) (hstr : vk_R own is text sa s) (hat : ∀ w ∈ vx_atS own ic cls names, w.before args s = true)
    (hgood : ∀ w ∈ Cond.classLink own ik cls :: Cond.initialized cls :: vx_atS own ic cls names, vx_ot w = true)
    (hU : vx_Zq Bundle.tN "UNASSIGNED_STACK" Bundle.steD A s s.heap) (hN : vx_Zq Bundle.tN "SUPPRESSED_SENTINEL" Bundle.listD A s s.heap) (hS : va_S A s.heap H locs) (hsize : ls.size = c.maxLocals)
    (d0 : decode cc pc = .ok (.new ik, 3)) (d3 : decode cc (pc + 3) = .ok (.dup, 1)) (d4 : decode cc (pc + 4) = .ok (.ldc is, 2)) (d6 : decode cc (pc + 6) = .ok (.invokespecial ic, 3)) (d9 : decode cc (pc + 9) = .ok (.athrow, 1))
    (hout : ∀ x ∈ c.exceptionTable.toList, covers x (pc + 9) = false)
    (hRframes : names.length + 3 < R.frames) (hRlocals : (rest.map fun v => v.category).sum + (13 * (names.length + 1) + 43) ≤ R.locals) (hRcells : cells + 1 ≤ R.cells) (hRslots : slots + 6 ≤ R.slots) (hlocks : meth.locks = false)
    (hx : ∀ t : State, s.vm.Alike t.vm → H.size ≤ t.heap.size → (∀ q : Nat, q < H.size → t.heap[q]? = H[q]?) → XC cls s t)
    (hf : ∀ z ∈ locs, free z.base) (hc : cells + 1 ≤ mc) (hs : slots + 6 ≤ ms) :
    W p l e R s m args below meth c H locs cells slots (vx_MQ below Qc XC args s mc ms free) (F0 m pc ls rest) := by
  intro T hT X
  have htr : e.platform.stackTraces = false := (show e.platform.stackTraces = l.stackTraces by rw [X.admits.platform]).trans hl
  have Y := vx_rebase X (R' := { frames := R.frames, locals := R.locals, cells := 1, slots := 6 }) (Nat.le_refl _) (Nat.le_refl _) hRcells hRslots
  obtain ⟨s', hA⟩ : ∃ z, z = (T.setVm s.vm).setFrames (.invoking m args :: below) := ⟨_, rfl⟩
  rw [← hA] at Y
  have hvm : s'.vm = s.vm := by rw [hA]; rfl
  have hhp : s'.heap = H := by rw [hA]; exact hT
  have hW0 : s.WarmedH s'.vm := by rw [hvm]; exact State.WarmedH.refl s
  have hat' : ∀ w ∈ vx_atS own ic cls names, w.before args s' = true := fun w hw => vx_ot_at hW0 hvm.symm (hgood w (List.mem_cons_of_mem _ (List.mem_cons_of_mem _ hw))) (hat w hw)
  have hk' : (Cond.classLink own ik cls).before args s' = true := vx_ot_at hW0 hvm.symm (hgood _ List.mem_cons_self) hk
  have hini' : (Cond.initialized cls).before args s' = true := vx_ot_at hW0 hvm.symm (hgood _ (List.mem_cons_of_mem _ List.mem_cons_self)) hini
  have hU' : vx_Zq Bundle.tN "UNASSIGNED_STACK" Bundle.steD A s' s'.heap := by rw [hhp]; exact vx_Zq.moved hW0.alike (hU.kept hS.2.1)
  have hN' : vx_Zq Bundle.tN "SUPPRESSED_SENTINEL" Bundle.listD A s' s'.heap := by rw [hhp]; exact vx_Zq.moved hW0.alike (hN.kept hS.2.1)
  have h : ∀ w ∈ Bundle.ownAtoms own ic cls names, w.before args s' = true := vx_own hat' (vx_isRefq hU'.1) (vx_isRefq hN'.1) hU'.2.word hN'.2.word
  have hown' : s'.vm.findClass own = some m.cls := by rw [hvm]; exact hown
  have hins : (Cond.instantiable cls 6).before args s' = true := h _ (by simp [Bundle.ownAtoms])
  obtain ⟨vm₁, cX, kX, hfX, hkX, -, -, X₁, st1⟩ := Y.newCold hexec (own := own) (C := cls) (index := ik) (n := 6) hown' hk' hins hini'
    (g := F0 m pc ls rest) rfl (by rw [hb]; exact d0) (Nat.le_refl _) (Nat.le_refl _)
  generalize hT1 : (T.setVm vm₁).pushCell { cls := cX, slots := kX.instanceTypes.map defaultValue, vm := .none } = T1 at X₁ st1
  have hcat : (Value.ref T.heap.size).category = 1 := rfl
  have hcellA : T1.heap[T.heap.size]? = some (freshCell cX kX) := by rw [← hT1]; exact State.heap_pushCell_size _ _
  have d3' : decode c.code (pc + 3) = .ok (.dup, 1) := by rw [hb]; exact d3
  have d4' : decode c.code (pc + 4) = .ok (.ldc is, 2) := by rw [hb]; exact d4
  have hstr' : vk_R own is text sa s' := vk_R.warm hW0 hstr
  obtain ⟨U, hsteps, hrun, hend, hW, hsame, ce, hce, hO⟩ := X₁.ctorThrowS hexec htr (own := own) (cls := cls) (names := names) (ic := ic) hown' hcls hnames h (fun x hx => nomatch hx) hfX hkX hcellA (by rw [hhp, hT]; exact Nat.le_refl _) (msg := .ref sa) rfl
    (g := { method := m, pc := pc + 6, locals := ls, stack := .ref sa :: .ref T.heap.size :: .ref T.heap.size :: rest, locked := none }) rfl hsize rfl rfl (rest := rest) rfl
    (by rw [hb]; exact d6) (by rw [hb]; exact d9) hout hRframes (by simp only [List.map_cons, List.sum_cons, hcat]; omega) hlocks
  obtain ⟨f1, f2⟩ := vx_frame hsame
  rw [hhp] at f1 f2
  have hWs : s.WarmedH U.vm := State.WarmedH.trans hW0 hW
  have hcl : s.vm.findClass cls = some ce.cls := by
    have h9 := hO.cls
    rw [hvm] at h9
    exact h9
  have hall : s.sameButNew ({ U with vm := s.vm } : State) locs mc ms := by
    subst hA
    obtain ⟨e1, e2⟩ := hsame
    rw [State.setFrames_setFrames] at e1
    have h2 : (T.setVm s.vm).sameButNew ({ U with vm := s.vm } : State) [] (0 + 1) (0 + 6) := ⟨e1, e2⟩
    have h3 := X.same.trans h2
    rw [List.append_nil] at h3
    exact h3.mono hc hs
  refine ⟨U, ?_, .threw T.heap.size, hrun, hend, Or.inr ⟨T.heap.size, rfl, cls, ce, locs, hx U hWs.alike f1 (fun q hq => f2 q hq (fun z hz => nomatch hz)), hce, hO.vm, hcl, hWs, hall, hf⟩⟩
  refine st1 _ ?_
  show Steps p.tables e below (T1.setTop { method := m, pc := pc + 3, locals := ls, stack := .ref T.heap.size :: rest, locked := none }) _
  jvm_step X₁.here [X₁.here.top, hexec, d3', Value.category]
  exact X₁.ldcString hexec (own := own) (text := text) (index := is) (a := sa) hown' hstr'.1 hstr'.2
    (g := { method := m, pc := pc + 4, locals := ls, stack := .ref T.heap.size :: .ref T.heap.size :: rest, locked := none }) rfl d4' _ hsteps
/-- 'throw new E("text")', the text by a wide index -/
theorem vx_throwSW {cc : ByteArray} {pc : Nat} (hexec : p.tables.exec = Jvm.exec) (hb : c.code = cc) (hl : l.stackTraces = false) {own cls text : String} {names : List String} {ik is ic mc ms sa : Nat} {A : Nat → Prop}
    (hown : s.vm.findClass own = some m.cls) (hcls : Bundle.fit cls = true) (hnames : ∀ n ∈ names, Bundle.fit n = true)
    (hk : (Cond.classLink own ik cls).before args s = true) (hini : (Cond.initialized cls).before args s = true) (hstr : vk_R own is text sa s) (hat : ∀ w ∈ vx_atS own ic cls names, w.before args s = true)
    (hgood : ∀ w ∈ Cond.classLink own ik cls :: Cond.initialized cls :: vx_atS own ic cls names, vx_ot w = true)
    (hU : vx_Zq Bundle.tN "UNASSIGNED_STACK" Bundle.steD A s s.heap) (hN : vx_Zq Bundle.tN "SUPPRESSED_SENTINEL" Bundle.listD A s s.heap) (hS : va_S A s.heap H locs) (hsize : ls.size = c.maxLocals)
    (d0 : decode cc pc = .ok (.new ik, 3)) (d3 : decode cc (pc + 3) = .ok (.dup, 1)) (d4 : decode cc (pc + 4) = .ok (.ldc_w is, 3)) (d7 : decode cc (pc + 7) = .ok (.invokespecial ic, 3)) (d10 : decode cc (pc + 10) = .ok (.athrow, 1))
    (hout : ∀ x ∈ c.exceptionTable.toList, covers x (pc + 10) = false)
    (hRframes : names.length + 3 < R.frames) (hRlocals : (rest.map fun v => v.category).sum + (13 * (names.length + 1) + 43) ≤ R.locals) (hRcells : cells + 1 ≤ R.cells) (hRslots : slots + 6 ≤ R.slots) (hlocks : meth.locks = false)
    (hx : ∀ t : State, s.vm.Alike t.vm → H.size ≤ t.heap.size → (∀ q : Nat, q < H.size → t.heap[q]? = H[q]?) → XC cls s t)
    (hf : ∀ z ∈ locs, free z.base) (hc : cells + 1 ≤ mc) (hs : slots + 6 ≤ ms) :
    W p l e R s m args below meth c H locs cells slots (vx_MQ below Qc XC args s mc ms free) (F0 m pc ls rest) := by
  intro T hT X
  have htr : e.platform.stackTraces = false := (show e.platform.stackTraces = l.stackTraces by rw [X.admits.platform]).trans hl
  have Y := vx_rebase X (R' := { frames := R.frames, locals := R.locals, cells := 1, slots := 6 }) (Nat.le_refl _) (Nat.le_refl _) hRcells hRslots
  obtain ⟨s', hA⟩ : ∃ z, z = (T.setVm s.vm).setFrames (.invoking m args :: below) := ⟨_, rfl⟩
  rw [← hA] at Y
  have hvm : s'.vm = s.vm := by rw [hA]; rfl
  have hhp : s'.heap = H := by rw [hA]; exact hT
  have hW0 : s.WarmedH s'.vm := by rw [hvm]; exact State.WarmedH.refl s
  have hat' : ∀ w ∈ vx_atS own ic cls names, w.before args s' = true := fun w hw => vx_ot_at hW0 hvm.symm (hgood w (List.mem_cons_of_mem _ (List.mem_cons_of_mem _ hw))) (hat w hw)
  have hk' : (Cond.classLink own ik cls).before args s' = true := vx_ot_at hW0 hvm.symm (hgood _ List.mem_cons_self) hk
  have hini' : (Cond.initialized cls).before args s' = true := vx_ot_at hW0 hvm.symm (hgood _ (List.mem_cons_of_mem _ List.mem_cons_self)) hini
  have hU' : vx_Zq Bundle.tN "UNASSIGNED_STACK" Bundle.steD A s' s'.heap := by rw [hhp]; exact vx_Zq.moved hW0.alike (hU.kept hS.2.1)
  have hN' : vx_Zq Bundle.tN "SUPPRESSED_SENTINEL" Bundle.listD A s' s'.heap := by rw [hhp]; exact vx_Zq.moved hW0.alike (hN.kept hS.2.1)
  have h : ∀ w ∈ Bundle.ownAtoms own ic cls names, w.before args s' = true := vx_own hat' (vx_isRefq hU'.1) (vx_isRefq hN'.1) hU'.2.word hN'.2.word
  have hown' : s'.vm.findClass own = some m.cls := by rw [hvm]; exact hown
  have hins : (Cond.instantiable cls 6).before args s' = true := h _ (by simp [Bundle.ownAtoms])
  obtain ⟨vm₁, cX, kX, hfX, hkX, -, -, X₁, st1⟩ := Y.newCold hexec (own := own) (C := cls) (index := ik) (n := 6) hown' hk' hins hini'
    (g := F0 m pc ls rest) rfl (by rw [hb]; exact d0) (Nat.le_refl _) (Nat.le_refl _)
  generalize hT1 : (T.setVm vm₁).pushCell { cls := cX, slots := kX.instanceTypes.map defaultValue, vm := .none } = T1 at X₁ st1
  have hcat : (Value.ref T.heap.size).category = 1 := rfl
  have hcellA : T1.heap[T.heap.size]? = some (freshCell cX kX) := by rw [← hT1]; exact State.heap_pushCell_size _ _
  have d3' : decode c.code (pc + 3) = .ok (.dup, 1) := by rw [hb]; exact d3
  have d4' : decode c.code (pc + 4) = .ok (.ldc_w is, 3) := by rw [hb]; exact d4
  have hstr' : vk_R own is text sa s' := vk_R.warm hW0 hstr
  obtain ⟨U, hsteps, hrun, hend, hW, hsame, ce, hce, hO⟩ := X₁.ctorThrowS hexec htr (own := own) (cls := cls) (names := names) (ic := ic) hown' hcls hnames h (fun x hx => nomatch hx) hfX hkX hcellA (by rw [hhp, hT]; exact Nat.le_refl _) (msg := .ref sa) rfl
    (g := { method := m, pc := pc + 7, locals := ls, stack := .ref sa :: .ref T.heap.size :: .ref T.heap.size :: rest, locked := none }) rfl hsize rfl rfl (rest := rest) rfl
    (by rw [hb]; exact d7) (by rw [hb]; exact d10) hout hRframes (by simp only [List.map_cons, List.sum_cons, hcat]; omega) hlocks
  obtain ⟨f1, f2⟩ := vx_frame hsame
  rw [hhp] at f1 f2
  have hWs : s.WarmedH U.vm := State.WarmedH.trans hW0 hW
  have hcl : s.vm.findClass cls = some ce.cls := by
    have h9 := hO.cls
    rw [hvm] at h9
    exact h9
  have hall : s.sameButNew ({ U with vm := s.vm } : State) locs mc ms := by
    subst hA
    obtain ⟨e1, e2⟩ := hsame
    rw [State.setFrames_setFrames] at e1
    have h2 : (T.setVm s.vm).sameButNew ({ U with vm := s.vm } : State) [] (0 + 1) (0 + 6) := ⟨e1, e2⟩
    have h3 := X.same.trans h2
    rw [List.append_nil] at h3
    exact h3.mono hc hs
  refine ⟨U, ?_, .threw T.heap.size, hrun, hend, Or.inr ⟨T.heap.size, rfl, cls, ce, locs, hx U hWs.alike f1 (fun q hq => f2 q hq (fun z hz => nomatch hz)), hce, hO.vm, hcl, hWs, hall, hf⟩⟩
  refine st1 _ ?_
  show Steps p.tables e below (T1.setTop { method := m, pc := pc + 3, locals := ls, stack := .ref T.heap.size :: rest, locked := none }) _
  jvm_step X₁.here [X₁.here.top, hexec, d3', Value.category]
  exact X₁.ldcStringW hexec (own := own) (text := text) (index := is) (a := sa) hown' hstr'.1 hstr'.2
    (g := { method := m, pc := pc + 4, locals := ls, stack := .ref T.heap.size :: .ref T.heap.size :: rest, locked := none }) rfl d4' _ hsteps
end Ends
section Bodies
variable {l : Launch}
theorem vx_ofW {y : MethodName} {ws ws' : List Cond} {rm : Room} {Pc : Array Value → State → Prop} {Qc : Array Value → State → Outcome → State → Prop} {XC : String → State → State → Prop} {mc ms : Nat} {free : Addr → Prop} {cc : ByteArray} {maxL : Nat} {ret : Option FieldType}
    (hy : plainName y.cls = true) (hw : ws = Cond.code y cc maxL ret :: ws')
    (body : ∀ p e s m args below meth c s₁, BodyLoose p l y (headSpec ws rm) cc maxL ret e s m args below meth c s₁ → c.maxLocals = maxL → (∀ x ∈ c.exceptionTable.toList, False) → Pc args s →
      W p l e (headSpec ws rm).room s m args below meth c s.heap [] 0 0 (vx_MQ below Qc XC args s mc ms free) (entryFrame m args maxL)) : vx_Met l y ws rm Pc Qc XC mc ms free := by
  refine MetFree.of_bodyS (code := cc) (maxLocals := maxL) (ret := ret) hy ?_ ?_
  · intro args s m h hn
    obtain ⟨meth, c, h1, h2, h3, h4, h5, h6, -, -⟩ := Cond.code_spec hn (atoms_spec (ws := ws) h _ (by rw [hw]; exact List.mem_cons_self))
    exact ⟨meth, c, h1, h2, h3, h4, h5, h6⟩
  · intro p e s m args below meth c s₁ B hml hP _
    have hh0 : s₁.heap = s.heap := by rw [B.state]; rfl
    have ht : ∀ x ∈ c.exceptionTable.toList, False := by
      obtain ⟨meth9, c9, h1, h2, -, -, -, -, h7, -⟩ := Cond.code_spec B.named (atoms_spec (ws := ws) B.pre _ (by rw [hw]; exact List.mem_cons_self))
      cases Option.some.inj (h1.symm.trans B.method)
      cases Option.some.inj (h2.symm.trans (Stand.of_body B).code)
      intro x hx
      rw [Array.isEmpty_iff.mp h7] at hx
      cases hx
    obtain ⟨t, a1, o, b1, b2, b3⟩ := body p e s m args below meth c s₁ B hml ht hP s₁ hh0 (Stand.of_body B)
    exact ⟨t, o, a1, b1, b2, b3⟩
/-- the table of a body with handlers -/
theorem vx_table {p : Program} {x y : MethodName} {S : Spec} {cc bytes : ByteArray} {maxL maxL' : Nat} {ret ret' : Option FieldType} {e : Env} {s s₁ : State} {m : MethodId} {args : Array Value} {below : List Frame} {meth : Method} {c : Code} {hh : List (Nat × Nat × Nat × Nat)}
    (B : BodyLoose p l y S cc maxL ret e s m args below meth c s₁) (h : (Cond.codeWith y bytes maxL' ret' hh).before args s = true) : c.exceptionTable.toList = tableOf hh := by
  obtain ⟨m9, meth9, c9, hn9, h1, h2, -, -, h6, -⟩ := Cond.codeWith_spec h
  cases Option.some.inj (hn9.symm.trans B.named)
  cases Option.some.inj (h1.symm.trans B.method)
  cases Option.some.inj (h2.symm.trans (Stand.of_body B).code)
  rw [← h6, table_eq]
end Bodies
end VXA
/-! ===== END ===== -/
/-! ===== BEGIN a static call of a method with an exception table ===== -/
section VXS
variable {p : Program} {l : Launch} {e : Env} {R : Room} {s : State} {m : MethodId} {args : Array Value} {below : List Frame} {meth : Method} {c : Code} {T : State} {H : Heap} {locs : List Loc} {cells slots : Nat}
abbrev vx_CSW (R : Room) (s : State) (args : Array Value) (own : String) (index : Nat) (y : MethodName) (bytes : ByteArray) (maxL : Nat) (ret : Option FieldType) (hh : List (Nat × Nat × Nat × Nat)) (ws : List Cond) (rm : Room) (mc ms n : Nat) : Prop :=
  (rm.cells = mc ∧ rm.slots = ms ∧ rm.frames + 1 ≤ R.frames ∧ 8 + (maxL + 11) + rm.locals ≤ R.locals ∧ (∀ w ∈ ws, ∀ (a' : Array Value) (U : State), s.WarmedH U.vm → w.before a' U = true) ∧ Cond.codeWith y bytes maxL ret hh ∈ ws) ∧
  (Cond.codeWith y bytes maxL ret hh).before args s = true ∧ (Cond.initialized y.cls).before args s = true ∧ (y.cls ≠ "java/lang/invoke/MethodHandle" ∧ y.cls ≠ "java/lang/invoke/VarHandle") ∧
  (∀ sig, parseMethodDescriptor y.desc = some sig → n = sig.parameters.length) ∧ (Cond.methodLink own index y).before args s = true ∧ (Cond.static y).before args s = true
theorem vx_cwSW {own : String} {index maxL mc ms : Nat} {y : MethodName} {bytes : ByteArray} {ret : Option FieldType} {hh : List (Nat × Nat × Nat × Nat)} {Ts ws ws' : List Cond} {rm : Room} (n : Nat) (ht : ∀ w ∈ Ts, w.before args s = true) (hT : GoodIn Ts (va_wsS own index y ws)) (hw : ws = Cond.codeWith y bytes maxL ret hh :: ws') (hrc : rm.cells = mc) (hrs : rm.slots = ms)
    (hd : y.cls ≠ "java/lang/invoke/MethodHandle" ∧ y.cls ≠ "java/lang/invoke/VarHandle" ∧ (parseMethodDescriptor y.desc).map (fun d => d.parameters.length) = some n) (hR : rm.frames + 1 ≤ R.frames ∧ 8 + (maxL + 11) + rm.locals ≤ R.locals) :
    vx_CSW R s args own index y bytes maxL ret hh ws rm mc ms n := by
  have ok : ∀ w ∈ va_wsS own index y ws, w.before args s = true := fun w h => ht w (hT w h).1
  have hG : GoodIn Ts ws := fun w h => hT w (by unfold va_wsS; exact List.mem_append_right _ h)
  have hc : Cond.codeWith y bytes maxL ret hh ∈ ws := by rw [hw]; exact List.mem_cons_self
  refine ⟨⟨hrc, hrs, hR.1, hR.2, pay_in ht hG, hc⟩, ht _ (hG _ hc).1, ok _ (by simp [va_wsS]), ⟨hd.1, hd.2.1⟩, fun sig h => ?_, ok _ (by simp [va_wsS]), ok _ (by simp [va_wsS])⟩
  have h2 := hd.2.2
  rw [h] at h2
  exact (Option.some.inj h2).symm
theorem vx_callSW (X : Stand p l e R s m args below meth c T locs cells slots) (hexec : p.tables.exec = Jvm.exec) {own : String} {index : Nat} {y : MethodName} {bytes : ByteArray} {maxL : Nat} {ret : Option FieldType} {hh : List (Nat × Nat × Nat × Nat)}
    (hown : s.vm.findClass own = some m.cls) (hlink : (Cond.methodLink own index y).before args s = true) (hstat : (Cond.static y).before args s = true) (hinit : (Cond.initialized y.cls).before args s = true)
    (hcode : (Cond.codeWith y bytes maxL ret hh).before args s = true) (hy : y.cls ≠ "java/lang/invoke/MethodHandle" ∧ y.cls ≠ "java/lang/invoke/VarHandle")
    {W9 : Nat} {Pre : Pt → Array Value → Prop} {Post : Pt → Array Value → Option Value → Pt → Prop} (hK : Back l R p e below s args y 3 W9 Pre Post)
    {g : JFrame} (hg : g.method = m) (hsize : g.locals.size = c.maxLocals) {argsL rest : List Value} (hlen : ∀ sig, parseMethodDescriptor y.desc = some sig → argsL.length = sig.parameters.length)
    (hstack : g.stack = argsL.reverse ++ rest) (hW : 2 * g.monitorRoom + (rest.map fun v => v.category).sum ≤ W9) (hdg : decode c.code g.pc = .ok (.invokestatic index, 3))
    (hpre : ∀ vm₁, s.WarmedH vm₁ → Pre ⟨T.setVm vm₁, locs, cells, slots⟩ argsL.toArray) :
    ∃ (v : Option Value) (vm₁ : Vm) (B : Pt), s.WarmedH vm₁ ∧ Stand p l e R s m args below meth c B.U B.locs B.cells B.slots ∧ Post ⟨T.setVm vm₁, locs, cells, slots⟩ argsL.toArray v B ∧
      ∀ target, Steps p.tables e below (B.U.setTop { g with pc := g.pc + 3, stack := v.toList ++ rest }) target → Steps p.tables e below (T.setTop g) target := by
  obtain ⟨mk, methM, cM, hnamed, hmethM, -, -, -, -, -, -, hsigM⟩ := Cond.codeWith_spec hcode
  have hstatic : methM.isStatic = true := Cond.static_spec hnamed hmethM hstat
  obtain ⟨kP, hkP, -⟩ := className_of_methodNamed hnamed
  have hinitP : kP.init = .initialized := Cond.initialized_spec (findClass_of_methodNamed hnamed) hkP hinit
  obtain ⟨vm₁, X₁, hstep₁⟩ := X.invokestatic hexec hown hlink hnamed hmethM hstatic hkP hinitP hy (g := g) hg (argsL := argsL) (rest := rest) (hlen _ hsigM) hstack hdg
  obtain ⟨v, B, X', hpost, hsteps⟩ := hK m meth c ⟨T.setVm vm₁, locs, cells, slots⟩ { g with stack := rest } (.invokestatic index) mk argsL.toArray X₁ hg hsize hdg hW (X₁.named hnamed) (hpre vm₁ X₁.warmed)
  exact ⟨v, vm₁, B, X₁.warmed, X', hpost, fun target h => hstep₁ _ fun acts => by rw [doInvoke_state]; exact hsteps.trans h⟩
theorem vx_runSW {y : MethodName} {bytes cc : ByteArray} {maxL nL mc ms n index : Nat} {ret : Option FieldType} {hh : List (Nat × Nat × Nat × Nat)} {ws : List Cond} {rm : Room} {Pc : Array Value → State → Prop} {Qc : Array Value → State → Outcome → State → Prop} {free : Addr → Prop} {Ts : List Cond} {own : String} {As rest : List Value} {g : JFrame}
    (S : CallFix p m c cc nL s args Ts own) (hM : Met l y ws rm Pc Qc mc ms free) (cw : vx_CSW R s args own index y bytes maxL ret hh ws rm mc ms n) (hp : PreS s H Pc As)
    (hg : g.method = m) (hn : As.length = n) (hsize : g.locals.size = nL) (hstack : g.stack = As.reverse ++ rest) (hW : 2 * g.monitorRoom + (rest.map fun v => v.category).sum ≤ 8) (hdg : decode cc g.pc = .ok (.invokestatic index, 3)) (hf : cells + mc ≤ R.cells ∧ slots + ms ≤ R.slots) :
    va_Run p l e R s m args below meth c H locs cells slots mc ms g rest (Qc As.toArray) (free) := by
  obtain ⟨⟨hrc, hrs, hfr, hlo, hws, hcw⟩, hcode, hini, hy, hlen, hl, hstt⟩ := cw
  have hK : Back l R p e below s args y 3 8 (PreOf R mc ms Pc) (PostOf Qc mc ms free) := va_backW (hh := hh) (bytes := bytes) (maxL := maxL) (ret := ret) hM hp.1 hrc hrs hfr hlo hws hcw (fun a' U hW => word_at hW (Or.inl (by first | rfl | simp [Cond.onTables, Cond.keeps, Cond.steady])) hini)
  obtain ⟨hx, hb, hml, ho, -⟩ := S
  intro T hT X
  obtain ⟨v, vm₁, ⟨U', l2, c2, s2⟩, hW₁, X', ⟨g', mk, t, L, e1, e2, hq, h1, hL, h2, h3⟩, st⟩ := vx_callSW X hx (hh := hh) (bytes := bytes) (maxL := maxL) (ret := ret) ho hl hstt hini hcode hy hK hg (hsize.trans hml.symm) (argsL := As) (rest := rest) (fun sig h => hn.trans (hlen sig h)) hstack hW (by rw [hb]; exact hdg)
    (fun vm₁ hW₁ => ⟨hf.1, hf.2, hp.2 (T.setVm vm₁) hT hW₁⟩)
  dsimp only [Pt.U, Pt.locs, Pt.cells, Pt.slots] at X' e1 e2 h1 h2 h3 st
  subst h1; subst h2; subst h3
  exact ⟨v, (T.setVm vm₁).calling g' mk As.toArray, t, U', L, hT, X', hL, e1, e2, hq, st⟩
/-- not caught here, past rows that name other classes: it goes on to the caller -/
theorem vx_outP {p : Program} {l : Launch} {e : Env} {R : Room} {s : State} {m : MethodId} {args : Array Value} {below : List Frame} {meth : Method} {c : Code} {H : Heap} {locs : List Loc} {cells slots : Nat} {free : Addr → Prop} {ls : Array Slot} {rest : List Value} {Qc : Array Value → State → Outcome → State → Prop} {XC : String → State → State → Prop}
    {pc : Nat} {own E : String} {ce : Cell} {q : Addr} {mc ms : Nat} (hown : s.vm.findClass own = some m.cls) (hlocks : meth.locks = false)
    (hpass : ∀ z ∈ c.exceptionTable.toList, covers z pc = false ∨ (z.catchType ≠ 0 ∧ ∃ nm : String, (Cond.classLink own z.catchType nm).before args s = true ∧ va_Nc E nm s)) (hcell : H[q]? = some ce) (hv : ce.vm = .none) (hcl : s.vm.findClass E = some ce.cls)
    (hx : ∀ t : State, t.heap = H → s.vm.Alike t.vm → XC E s t) (hf : ∀ z ∈ locs, free z.base) (hc : cells ≤ mc) (hs : slots ≤ ms) :
    vx_W p l e R s m args below meth c H locs cells slots (vx_MQ below Qc XC args s mc ms free) (F0 m pc ls rest) q := by
  intro T hT X
  have hpl : e.platform.magicAccessors = ({} : Platform).magicAccessors := by rw [X.admits.platform]
  obtain ⟨vm', hW', X', st⟩ := X.outThrough hlocks q (g := F0 m pc ls rest) rfl rfl rfl (cell := ce) (by rw [hT]; exact hcell) (by rw [hv]; rfl)
    (by obtain ⟨k9, h9, -⟩ := Vm.findClass_spec hcl; exact ⟨k9, h9⟩) (fun z hz => by
      rcases hpass z hz with h | ⟨hz0, nm, hl1, hn1⟩
      · exact Or.inl h
      · obtain ⟨c6, hc6, hcl6⟩ := Cond.classLink_spec hown hl1 e.platform hpl
        obtain ⟨a8, b8, h1, h2, h3⟩ := hn1
        cases Option.some.inj (h1.symm.trans hcl)
        cases Option.some.inj (h2.symm.trans hc6)
        exact Or.inr ⟨hz0, _, hcl6, h3⟩)
  obtain ⟨g₀, hfr⟩ := X'.frames_eq
  have hcell9 : ((T.setVm vm').setFrames (.throwing q :: below)).heap[q]? = some ce := by
    show T.heap[q]? = some ce
    rw [hT]; exact hcell
  have hend : Ended ((T.setVm vm').setFrames (.throwing q :: below)) below (.threw q) := State.frames_setFrames _ (State.cur_lt_of_frames hfr)
  refine ⟨(T.setVm vm').setFrames (.throwing q :: below), ?_, .threw q, X'.here.running, hend, Or.inr ⟨q, rfl, E, ce, locs, hx _ hT (X'.ends _).1.alike, hcell9, hv, hcl, (X'.ends _).1, (X'.ends _).2.mono hc hs, hf⟩⟩
  rw [X.pushThrowing_eq]
  exact st
/-- a thing of a world lies in the heap -/
theorem vx_lt {D : va_G} {cl : List vw_C} {ws : va_W} {H1 : Heap} (h : va_P D cl ws H1) {k : Nat} {q : Nat × va_E} (hk : ws[k]? = some q) : q.1 < H1.size := (h k q hk).lt
end VXS
/-! ===== END ===== -/
/-! ===== BEGIN methods with a table of their own: called by a name, returning or throwing ===== -/
section VXH
/-! vx_backW, vx_callVX, vx_callSX, vx_callVW, vx_runVW, vx_runVX, vx_runSX, vx_ofWH follow the same proofs as their sisters above (Free/Laws.lean, Shelf42/LK1.lean); vx_outP calls Shelf42/NT130.lean (outThrough). -/
section
variable {l : Launch} {R : Room} {p : Program} {e : Env} {below : List Frame} {s : State} {sargs : Array Value} {y : MethodName} {len W9 : Nat}
theorem vx_backW {ws : List Cond} {rm : Room} {Pc : Array Value → State → Prop} {Qc : Array Value → State → Outcome → State → Prop} {XC : String → State → State → Prop} {mc ms : Nat} {free : Addr → Prop} {bytes : ByteArray} {maxL : Nat} {ret : Option FieldType} {hh : List (Nat × Nat × Nat × Nat)}
    (hM : vx_Met l y ws rm Pc Qc XC mc ms free) (hblind : FrameBlind Pc) (hrc : rm.cells = mc) (hrs : rm.slots = ms)
    (hframes : rm.frames + 1 ≤ R.frames) (hlocals : W9 + (maxL + 11) + rm.locals ≤ R.locals)
    (hws : ∀ w ∈ ws, ∀ a' U, s.WarmedH U.vm → w.before a' U = true) (hcode : Cond.codeWith y bytes maxL ret hh ∈ ws) (hinit : ∀ a' U, s.WarmedH U.vm → (Cond.initialized y.cls).before a' U = true) :
    vx_Back l R p e below s sargs y len W9 (PreOf R mc ms Pc) (PostOf Qc mc ms free) (vx_Post XC mc ms free) := by
  intro m meth c A g ig mk a X hg hsize hdg hW hn hp
  have h1 : (headSpec ws rm).pre.before a A.U = true := atoms_intro fun w hw => hws w hw _ _ X.warmed
  have h2 : (Cond.codeWith y bytes maxL ret hh).before a A.U = true := hws _ hcode _ _ X.warmed
  have h3 : (Cond.initialized y.cls).before a A.U = true := hinit _ _ X.warmed
  have h4 : A.cells + (headSpec ws rm).room.cells ≤ R.cells := by rw [show (headSpec ws rm).room.cells = mc from hrc]; exact hp.1
  have h5 : A.slots + (headSpec ws rm).room.slots ≤ R.slots := by rw [show (headSpec ws rm).room.slots = ms from hrs]; exact hp.2.1
  have hPc : Pc a (A.U.calling g mk a) := hblind _ _ _ _ hp.2.2
  obtain ⟨U, Ls, c0, s0⟩ := A
  dsimp only [Pt.U, Pt.locs, Pt.cells, Pt.slots] at h1 h2 h3 h4 h5 X hn hPc ⊢
  obtain ⟨m9, methY, cY, hn9, hmY, hcY, -, hlY, -⟩ := Cond.codeWith_spec h2
  cases Option.some.inj (hn9.symm.trans hn)
  obtain ⟨kY, hkY, -⟩ := className_of_methodNamed hn
  have hinitY : kY.init = .initialized := Cond.initialized_spec (findClass_of_methodNamed hn) hkY h3
  have h : At U g.method c below := by rw [hg]; exact X.here
  have hlocals9 : W9 + (maxL + 11) + (headSpec ws rm).room.locals ≤ R.locals := hlocals
  have happ : (headSpec ws rm).appliesLoose y e.platform (U.calling g mk a) = true :=
    Spec.appliesLoose_calling (g := g) h hdg hn hkY hinitY
      (X.room_calling (g := g) (R' := (headSpec ws rm).room) hsize hmY hcY hframes (by rw [hlY]; omega) h4 h5) h1
  obtain ⟨mid, hmid⟩ := h.above
  have hfr : (U.setTop g).frames = (.java g :: mid) ++ below := by rw [State.frames_setTop' g h.top, hmid]; rfl
  obtain ⟨o, s₂, hsteps, -, hend, hq⟩ := Steps.callFree hM p X.admits X.cas X.clock (acts := []) hfr happ hPc trivial
  have hq' : vx_Q Qc XC mc ms free a (U.calling g mk a) o s₂ := hq
  rw [State.frames_setTop' g h.top] at hend
  obtain ⟨g₀, hg0⟩ := Option.isSome_iff_exists.mp h.top
  obtain ⟨r, hr⟩ := State.topJava?_eq_some.mp hg0
  have hr' : (({ U with heap := s₂.heap, slotsUsed := s₂.slotsUsed } : State).setVm s₂.vm).frames = .java g₀ :: r := hr
  rcases hq' with ⟨hqc, L, hfe, hL⟩ | ⟨q, rfl, E, ce, L, hx, hce, hcv, hcl, hW₂, hsm, hL⟩
  · obtain ⟨⟨v, rfl⟩, hW₂, e2, q2, q3, q4, q5, q6⟩ := id hfe
    have e3 : s₂ = ({ (U.calling g mk a).setFrames s₂.frames with heap := s₂.heap, slotsUsed := s₂.slotsUsed } : State).setVm s₂.vm := by
      have : s₂ = ({ s₂ with vm := (U.calling g mk a).vm } : State).setVm s₂.vm := rfl
      rw [e2] at this
      exact this
    obtain ⟨c₂, i₂, len₂, hc₂, hd₂, hf₂⟩ := hend
    have hW' : U.WarmedH s₂.vm := hW₂
    have hcc : c₂ = c := by
      have h1 : s₂.code? g.method = U.code? g.method := by
        rw [State.code?_eq, State.code?_eq, hW'.alike.method?]
      exact Option.some.inj (hc₂.symm.trans (h1.trans h.code))
    subst hcc
    have hlen : len₂ = len := by rw [hdg] at hd₂; cases hd₂; rfl
    subst hlen
    have hs₂ : s₂ = (({ U with heap := s₂.heap, slotsUsed := s₂.slotsUsed } : State).setVm s₂.vm).setTop { g with pc := g.pc + len₂, stack := v.toList ++ g.stack } := by
      refine e3.trans ?_
      rw [hf₂, State.calling_eq h.top, State.setFrames_setFrames, State.setTop_of_frames _ hr', hr]
      rfl
    have hsame : U.sameButNew ({ U with heap := s₂.heap, slotsUsed := s₂.slotsUsed } : State) L mc ms := by
      refine ⟨?_, q2, q3, q4, q5, q6⟩
      obtain ⟨t, ht, -⟩ := State.frames_cons hr
      show ({ U with heap := s₂.heap, slotsUsed := s₂.slotsUsed } : State) = { U.setFrames U.frames with heap := s₂.heap, slotsUsed := s₂.slotsUsed }
      rw [State.setFrames_self ht]
    subst hg
    refine Or.inl ⟨v, ⟨(({ U with heap := s₂.heap, slotsUsed := s₂.slotsUsed } : State).setVm s₂.vm), Ls ++ L, c0 + mc, s0 + ms⟩,
      ⟨X.admits, X.cas, X.clock, X.frames, X.room, X.hears, X.method, X.code, (X.here.setHeapUsed s₂.heap s₂.slotsUsed).setVm hW'.alike, X.tail, State.WarmedH.trans X.warmed hW', X.limits, X.bytes, X.same.trans (hsame.setVm s.vm)⟩,
      ⟨g, mk, s₂, L, rfl, rfl, hqc, rfl, hL, rfl, rfl⟩, ?_⟩
    show Steps p.tables e below _ ((({ U with heap := s₂.heap, slotsUsed := s₂.slotsUsed } : State).setVm s₂.vm).setTop { g with pc := g.pc + len₂, stack := v.toList ++ g.stack })
    rw [← hs₂]
    exact hsteps
  · obtain ⟨e2, q2, q3, q4, q5, q6⟩ := id hsm
    have e3 : s₂ = ({ (U.calling g mk a).setFrames s₂.frames with heap := s₂.heap, slotsUsed := s₂.slotsUsed } : State).setVm s₂.vm := by
      have : s₂ = ({ s₂ with vm := (U.calling g mk a).vm } : State).setVm s₂.vm := rfl
      rw [e2] at this
      exact this
    have hf₂ : s₂.frames = .throwing q :: .java g :: U.frames.tail := hend
    have hW' : U.WarmedH s₂.vm := hW₂
    have hs₂ : s₂ = ((({ U with heap := s₂.heap, slotsUsed := s₂.slotsUsed } : State).setVm s₂.vm).setTop g).pushFrame (.throwing q) := by
      refine e3.trans ?_
      rw [hf₂, State.calling_eq h.top, State.setFrames_setFrames, State.pushFrame, State.frames_setTop _ hr', State.setTop_of_frames _ hr', State.setFrames_setFrames, hr]
      rfl
    have hsame : U.sameButNew ({ U with heap := s₂.heap, slotsUsed := s₂.slotsUsed } : State) L mc ms := by
      refine ⟨?_, q2, q3, q4, q5, q6⟩
      obtain ⟨t, ht, -⟩ := State.frames_cons hr
      show ({ U with heap := s₂.heap, slotsUsed := s₂.slotsUsed } : State) = { U.setFrames U.frames with heap := s₂.heap, slotsUsed := s₂.slotsUsed }
      rw [State.setFrames_self ht]
    subst hg
    refine Or.inr ⟨q, ⟨(({ U with heap := s₂.heap, slotsUsed := s₂.slotsUsed } : State).setVm s₂.vm), Ls ++ L, c0 + mc, s0 + ms⟩,
      ⟨X.admits, X.cas, X.clock, X.frames, X.room, X.hears, X.method, X.code, (X.here.setHeapUsed s₂.heap s₂.slotsUsed).setVm hW'.alike, X.tail, State.WarmedH.trans X.warmed hW', X.limits, X.bytes, X.same.trans (hsame.setVm s.vm)⟩,
      ⟨g, mk, s₂, L, E, ce, rfl, rfl, hx, hce, hcv, hcl, rfl, hL, rfl, rfl⟩, ?_⟩
    show Steps p.tables e below _ (((({ U with heap := s₂.heap, slotsUsed := s₂.slotsUsed } : State).setVm s₂.vm).setTop g).pushFrame (.throwing q))
    rw [← hs₂]
    exact hsteps
end
variable {p : Program} {l : Launch} {e : Env} {R : Room} {s : State} {m : MethodId} {args : Array Value} {below : List Frame} {meth : Method} {c : Code} {T : State} {H : Heap} {locs : List Loc} {cells slots : Nat}
theorem vx_callVX (X : Stand p l e R s m args below meth c T locs cells slots) (hexec : p.tables.exec = Jvm.exec) {own C : String} {index : Nat} {y : MethodName} {bytes : ByteArray} {maxL : Nat} {ret : Option FieldType} {hh : List (Nat × Nat × Nat × Nat)}
    (hown : s.vm.findClass own = some m.cls) (hlink : (Cond.methodLink own index y).before args s = true) (hinst : (Cond.instanceMethod y).before args s = true) (hsel : (Cond.selects C y y).before args s = true)
    (hcode : (Cond.codeWith y bytes maxL ret hh).before args s = true) (hy : y.cls ≠ "java/lang/invoke/MethodHandle" ∧ y.cls ≠ "java/lang/invoke/VarHandle")
    {W9 : Nat} {Pre : Pt → Array Value → Prop} {Post : Pt → Array Value → Option Value → Pt → Prop} {PostX : Pt → Array Value → Addr → Pt → Prop} (hK : vx_Back l R p e below s args y 3 W9 Pre Post PostX)
    {b : Addr} {cellB : Cell} (hcell : T.heap[b]? = some cellB) (hobj : cellB.vm.isStatics = false) (hcls : s.vm.findClass C = some cellB.cls)
    {g : JFrame} (hg : g.method = m) (hsize : g.locals.size = c.maxLocals) {argsL rest : List Value} (hlen : ∀ sig, parseMethodDescriptor y.desc = some sig → argsL.length = sig.parameters.length)
    (hstack : g.stack = argsL.reverse ++ .ref b :: rest) (hW : 2 * g.monitorRoom + (rest.map fun v => v.category).sum ≤ W9) (hdg : decode c.code g.pc = .ok (.invokevirtual index, 3))
    (hpre : ∀ vm₁, s.WarmedH vm₁ → Pre ⟨T.setVm vm₁, locs, cells, slots⟩ (Value.ref b :: argsL).toArray) :
    (∃ (v : Option Value) (vm₁ : Vm) (B : Pt), s.WarmedH vm₁ ∧ Stand p l e R s m args below meth c B.U B.locs B.cells B.slots ∧ Post ⟨T.setVm vm₁, locs, cells, slots⟩ (Value.ref b :: argsL).toArray v B ∧
      ∀ target, Steps p.tables e below (B.U.setTop { g with pc := g.pc + 3, stack := v.toList ++ rest }) target → Steps p.tables e below (T.setTop g) target) ∨
    (∃ (q : Addr) (vm₁ : Vm) (B : Pt), s.WarmedH vm₁ ∧ Stand p l e R s m args below meth c B.U B.locs B.cells B.slots ∧ PostX ⟨T.setVm vm₁, locs, cells, slots⟩ (Value.ref b :: argsL).toArray q B ∧
      Steps p.tables e below (T.setTop g) ((B.U.setTop { g with stack := rest }).pushFrame (.throwing q))) := by
  obtain ⟨mk, methM, hnamed, hmethM, hstM, habM⟩ := Cond.instanceMethod_spec hinst
  obtain ⟨m8, methM', cM, hn8, hmethM', -, -, -, -, -, -, hsigM⟩ := Cond.codeWith_spec hcode
  cases Option.some.inj (hn8.symm.trans hnamed)
  cases hmethM.symm.trans hmethM'
  obtain ⟨c2, r2, m2, q1, q2, q3, q4, kP, hkP, hkPi⟩ := Cond.selects_spec hsel
  cases hcls.symm.trans q1
  cases (State.methodFound?_of_named hnamed hy).symm.trans q2
  cases hnamed.symm.trans q3
  have hselP : selectMethod e.platform s.vm cellB.cls mk = .method mk := by rw [Launch.admits_selectMethod X.admits]; exact q4
  obtain ⟨vm₁, X₁, hstep₁⟩ := X.invokevirtual hexec hown hlink hnamed hmethM hstM hkP hkPi hy (a := b) (cell := cellB) hcell
    (fun z h => by rw [h] at hobj; cases hobj) hselP hmethM habM hkP hkPi (g := g) hg (argsL := argsL) (rest := rest) (hlen _ hsigM) hstack hdg
  rcases hK m meth c ⟨T.setVm vm₁, locs, cells, slots⟩ { g with stack := rest } (.invokevirtual index) mk (Value.ref b :: argsL).toArray X₁ hg hsize hdg hW (X₁.named hnamed) (hpre vm₁ X₁.warmed) with ⟨v, B, X', hpost, hsteps⟩ | ⟨q, B, X', hpost, hsteps⟩
  · exact Or.inl ⟨v, vm₁, B, X₁.warmed, X', hpost, fun target h => hstep₁ _ fun acts => by rw [doInvoke_state]; exact hsteps.trans h⟩
  · exact Or.inr ⟨q, vm₁, B, X₁.warmed, X', hpost, hstep₁ _ fun acts => by rw [doInvoke_state]; exact hsteps⟩
theorem vx_callSX (X : Stand p l e R s m args below meth c T locs cells slots) (hexec : p.tables.exec = Jvm.exec) {own : String} {index : Nat} {y : MethodName} {bytes : ByteArray} {maxL : Nat} {ret : Option FieldType} {hh : List (Nat × Nat × Nat × Nat)}
    (hown : s.vm.findClass own = some m.cls) (hlink : (Cond.methodLink own index y).before args s = true) (hstat : (Cond.static y).before args s = true) (hinit : (Cond.initialized y.cls).before args s = true)
    (hcode : (Cond.codeWith y bytes maxL ret hh).before args s = true) (hy : y.cls ≠ "java/lang/invoke/MethodHandle" ∧ y.cls ≠ "java/lang/invoke/VarHandle")
    {W9 : Nat} {Pre : Pt → Array Value → Prop} {Post : Pt → Array Value → Option Value → Pt → Prop} {PostX : Pt → Array Value → Addr → Pt → Prop} (hK : vx_Back l R p e below s args y 3 W9 Pre Post PostX)
    {g : JFrame} (hg : g.method = m) (hsize : g.locals.size = c.maxLocals) {argsL rest : List Value} (hlen : ∀ sig, parseMethodDescriptor y.desc = some sig → argsL.length = sig.parameters.length)
    (hstack : g.stack = argsL.reverse ++ rest) (hW : 2 * g.monitorRoom + (rest.map fun v => v.category).sum ≤ W9) (hdg : decode c.code g.pc = .ok (.invokestatic index, 3))
    (hpre : ∀ vm₁, s.WarmedH vm₁ → Pre ⟨T.setVm vm₁, locs, cells, slots⟩ argsL.toArray) :
    (∃ (v : Option Value) (vm₁ : Vm) (B : Pt), s.WarmedH vm₁ ∧ Stand p l e R s m args below meth c B.U B.locs B.cells B.slots ∧ Post ⟨T.setVm vm₁, locs, cells, slots⟩ argsL.toArray v B ∧
      ∀ target, Steps p.tables e below (B.U.setTop { g with pc := g.pc + 3, stack := v.toList ++ rest }) target → Steps p.tables e below (T.setTop g) target) ∨
    (∃ (q : Addr) (vm₁ : Vm) (B : Pt), s.WarmedH vm₁ ∧ Stand p l e R s m args below meth c B.U B.locs B.cells B.slots ∧ PostX ⟨T.setVm vm₁, locs, cells, slots⟩ argsL.toArray q B ∧
      Steps p.tables e below (T.setTop g) ((B.U.setTop { g with stack := rest }).pushFrame (.throwing q))) := by
  obtain ⟨mk, methM, cM, hnamed, hmethM, -, -, -, -, -, -, hsigM⟩ := Cond.codeWith_spec hcode
  have hstatic : methM.isStatic = true := Cond.static_spec hnamed hmethM hstat
  obtain ⟨kP, hkP, -⟩ := className_of_methodNamed hnamed
  have hinitP : kP.init = .initialized := Cond.initialized_spec (findClass_of_methodNamed hnamed) hkP hinit
  obtain ⟨vm₁, X₁, hstep₁⟩ := X.invokestatic hexec hown hlink hnamed hmethM hstatic hkP hinitP hy (g := g) hg (argsL := argsL) (rest := rest) (hlen _ hsigM) hstack hdg
  rcases hK m meth c ⟨T.setVm vm₁, locs, cells, slots⟩ { g with stack := rest } (.invokestatic index) mk argsL.toArray X₁ hg hsize hdg hW (X₁.named hnamed) (hpre vm₁ X₁.warmed) with ⟨v, B, X', hpost, hsteps⟩ | ⟨q, B, X', hpost, hsteps⟩
  · exact Or.inl ⟨v, vm₁, B, X₁.warmed, X', hpost, fun target h => hstep₁ _ fun acts => by rw [doInvoke_state]; exact hsteps.trans h⟩
  · exact Or.inr ⟨q, vm₁, B, X₁.warmed, X', hpost, hstep₁ _ fun acts => by rw [doInvoke_state]; exact hsteps⟩
theorem vx_callVW (X : Stand p l e R s m args below meth c T locs cells slots) (hexec : p.tables.exec = Jvm.exec) {own C : String} {index : Nat} {y : MethodName} {bytes : ByteArray} {maxL : Nat} {ret : Option FieldType} {hh : List (Nat × Nat × Nat × Nat)}
    (hown : s.vm.findClass own = some m.cls) (hlink : (Cond.methodLink own index y).before args s = true) (hinst : (Cond.instanceMethod y).before args s = true) (hsel : (Cond.selects C y y).before args s = true)
    (hcode : (Cond.codeWith y bytes maxL ret hh).before args s = true) (hy : y.cls ≠ "java/lang/invoke/MethodHandle" ∧ y.cls ≠ "java/lang/invoke/VarHandle")
    {W9 : Nat} {Pre : Pt → Array Value → Prop} {Post : Pt → Array Value → Option Value → Pt → Prop} (hK : Back l R p e below s args y 3 W9 Pre Post)
    {b : Addr} {cellB : Cell} (hcell : T.heap[b]? = some cellB) (hobj : cellB.vm.isStatics = false) (hcls : s.vm.findClass C = some cellB.cls)
    {g : JFrame} (hg : g.method = m) (hsize : g.locals.size = c.maxLocals) {argsL rest : List Value} (hlen : ∀ sig, parseMethodDescriptor y.desc = some sig → argsL.length = sig.parameters.length)
    (hstack : g.stack = argsL.reverse ++ .ref b :: rest) (hW : 2 * g.monitorRoom + (rest.map fun v => v.category).sum ≤ W9) (hdg : decode c.code g.pc = .ok (.invokevirtual index, 3))
    (hpre : ∀ vm₁, s.WarmedH vm₁ → Pre ⟨T.setVm vm₁, locs, cells, slots⟩ (Value.ref b :: argsL).toArray) :
    ∃ (v : Option Value) (vm₁ : Vm) (B : Pt), s.WarmedH vm₁ ∧ Stand p l e R s m args below meth c B.U B.locs B.cells B.slots ∧ Post ⟨T.setVm vm₁, locs, cells, slots⟩ (Value.ref b :: argsL).toArray v B ∧
      ∀ target, Steps p.tables e below (B.U.setTop { g with pc := g.pc + 3, stack := v.toList ++ rest }) target → Steps p.tables e below (T.setTop g) target := by
  obtain ⟨mk, methM, hnamed, hmethM, hstM, habM⟩ := Cond.instanceMethod_spec hinst
  obtain ⟨m8, methM', cM, hn8, hmethM', -, -, -, -, -, -, hsigM⟩ := Cond.codeWith_spec hcode
  cases Option.some.inj (hn8.symm.trans hnamed)
  cases hmethM.symm.trans hmethM'
  obtain ⟨c2, r2, m2, q1, q2, q3, q4, kP, hkP, hkPi⟩ := Cond.selects_spec hsel
  cases hcls.symm.trans q1
  cases (State.methodFound?_of_named hnamed hy).symm.trans q2
  cases hnamed.symm.trans q3
  have hselP : selectMethod e.platform s.vm cellB.cls mk = .method mk := by rw [Launch.admits_selectMethod X.admits]; exact q4
  obtain ⟨vm₁, X₁, hstep₁⟩ := X.invokevirtual hexec hown hlink hnamed hmethM hstM hkP hkPi hy (a := b) (cell := cellB) hcell
    (fun z h => by rw [h] at hobj; cases hobj) hselP hmethM habM hkP hkPi (g := g) hg (argsL := argsL) (rest := rest) (hlen _ hsigM) hstack hdg
  obtain ⟨v, B, X', hpost, hsteps⟩ := hK m meth c ⟨T.setVm vm₁, locs, cells, slots⟩ { g with stack := rest } (.invokevirtual index) mk (Value.ref b :: argsL).toArray X₁ hg hsize hdg hW (X₁.named hnamed) (hpre vm₁ X₁.warmed)
  exact ⟨v, vm₁, B, X₁.warmed, X', hpost, fun target h => hstep₁ _ fun acts => by rw [doInvoke_state]; exact hsteps.trans h⟩
abbrev vx_CVW (R : Room) (s : State) (args : Array Value) (own C : String) (index : Nat) (y : MethodName) (bytes : ByteArray) (maxL : Nat) (ret : Option FieldType) (hh : List (Nat × Nat × Nat × Nat)) (ws : List Cond) (rm : Room) (mc ms n : Nat) : Prop :=
  (rm.cells = mc ∧ rm.slots = ms ∧ rm.frames + 1 ≤ R.frames ∧ 8 + (maxL + 11) + rm.locals ≤ R.locals ∧ (∀ w ∈ ws, ∀ (a' : Array Value) (U : State), s.WarmedH U.vm → w.before a' U = true) ∧ Cond.codeWith y bytes maxL ret hh ∈ ws) ∧
  (Cond.codeWith y bytes maxL ret hh).before args s = true ∧ (Cond.initialized y.cls).before args s = true ∧ (y.cls ≠ "java/lang/invoke/MethodHandle" ∧ y.cls ≠ "java/lang/invoke/VarHandle") ∧
  (∀ sig, parseMethodDescriptor y.desc = some sig → n = sig.parameters.length) ∧ (Cond.methodLink own index y).before args s = true ∧ (Cond.instanceMethod y).before args s = true ∧ (Cond.selects C y y).before args s = true
theorem vx_cwVW {own C : String} {index maxL mc ms : Nat} {y : MethodName} {bytes : ByteArray} {ret : Option FieldType} {hh : List (Nat × Nat × Nat × Nat)} {Ts ws ws' : List Cond} {rm : Room} (n : Nat) (ht : ∀ w ∈ Ts, w.before args s = true) (hT : GoodIn Ts (wsV own index C y ws)) (hw : ws = Cond.codeWith y bytes maxL ret hh :: ws') (hrc : rm.cells = mc) (hrs : rm.slots = ms)
    (hd : y.cls = C ∧ y.cls ≠ "java/lang/invoke/MethodHandle" ∧ y.cls ≠ "java/lang/invoke/VarHandle" ∧ (parseMethodDescriptor y.desc).map (fun d => d.parameters.length) = some n) (hR : rm.frames + 1 ≤ R.frames ∧ 8 + (maxL + 11) + rm.locals ≤ R.locals) :
    vx_CVW R s args own C index y bytes maxL ret hh ws rm mc ms n := by
  obtain ⟨hC, hd⟩ := hd
  subst hC
  have ok : ∀ w ∈ wsV own index y.cls y ws, w.before args s = true := fun w h => ht w (hT w h).1
  have hG : GoodIn Ts ws := fun w h => hT w (by unfold wsV; exact List.mem_append_right _ h)
  have hc : Cond.codeWith y bytes maxL ret hh ∈ ws := by rw [hw]; exact List.mem_cons_self
  refine ⟨⟨hrc, hrs, hR.1, hR.2, pay_in ht hG, hc⟩, ht _ (hG _ hc).1, ok _ (by simp [wsV]), ⟨hd.1, hd.2.1⟩, fun sig h => ?_, ok _ (by simp [wsV]), ok _ (by simp [wsV]), ok _ (by simp [wsV])⟩
  have h2 := hd.2.2
  rw [h] at h2
  exact (Option.some.inj h2).symm
theorem vx_runVW {y : MethodName} {bytes cc : ByteArray} {maxL nL mc ms n index : Nat} {ret : Option FieldType} {hh : List (Nat × Nat × Nat × Nat)} {ws : List Cond} {rm : Room} {Pc : Array Value → State → Prop} {Qc : Array Value → State → Outcome → State → Prop} {free : Addr → Prop} {Ts : List Cond} {own C : String} {b : Addr} {As rest : List Value} {g : JFrame}
    (S : CallFix p m c cc nL s args Ts own) (hM : Met l y ws rm Pc Qc mc ms free) (cw : vx_CVW R s args own C index y bytes maxL ret hh ws rm mc ms n) (hp : PreV s H C b Pc As)
    (hg : g.method = m) (hn : As.length = n) (hsize : g.locals.size = nL) (hstack : g.stack = As.reverse ++ .ref b :: rest) (hW : 2 * g.monitorRoom + (rest.map fun v => v.category).sum ≤ 8) (hdg : decode cc g.pc = .ok (.invokevirtual index, 3)) (hf : cells + mc ≤ R.cells ∧ slots + ms ≤ R.slots) :
    va_Run p l e R s m args below meth c H locs cells slots mc ms g rest (Qc (Value.ref b :: As).toArray) free := by
  obtain ⟨⟨hrc, hrs, hfr, hlo, hws, hcw⟩, hcode, hini, hy, hlen, hl, hin, hse⟩ := cw
  have hK : Back l R p e below s args y 3 8 (PreOf R mc ms Pc) (PostOf Qc mc ms free) := va_backW (hh := hh) (bytes := bytes) (maxL := maxL) (ret := ret) hM hp.1 hrc hrs hfr hlo hws hcw (fun a' U hW => word_at hW (Or.inl (by first | rfl | simp [Cond.onTables, Cond.keeps, Cond.steady])) hini)
  obtain ⟨hx, hb, hml, ho, -⟩ := S
  obtain ⟨-, ⟨cellB, hcB, hoB, hclB⟩, hPc⟩ := hp
  intro T hT X
  obtain ⟨v, vm₁, ⟨U', l2, c2, s2⟩, hW₁, X', ⟨g', mk, t, L, e1, e2, hq, h1, hL, h2, h3⟩, st⟩ := vx_callVW X hx (C := C) (hh := hh) (bytes := bytes) (maxL := maxL) (ret := ret) ho hl hin hse hcode hy hK (by rw [hT]; exact hcB) hoB hclB hg (hsize.trans hml.symm) (argsL := As) (rest := rest) (fun sig h => hn.trans (hlen sig h)) hstack hW (by rw [hb]; exact hdg)
    (fun vm₁ hW₁ => ⟨hf.1, hf.2, hPc (T.setVm vm₁) hT hW₁⟩)
  dsimp only [Pt.U, Pt.locs, Pt.cells, Pt.slots] at X' e1 e2 h1 h2 h3 st
  subst h1; subst h2; subst h3
  exact ⟨v, (T.setVm vm₁).calling g' mk (Value.ref b :: As).toArray, t, U', L, hT, X', hL, e1, e2, hq, st⟩
section
variable {y : MethodName} {bytes cc : ByteArray} {maxL nL mc ms n index : Nat} {ret : Option FieldType} {ws : List Cond} {rm : Room} {Pc : Array Value → State → Prop} {Qc : Array Value → State → Outcome → State → Prop} {XC : String → State → State → Prop} {free : Addr → Prop} {Ts : List Cond} {own C : String} {b : Addr} {As rest : List Value} {g : JFrame}
theorem vx_runVX {hh : List (Nat × Nat × Nat × Nat)} (S : CallFix p m c cc nL s args Ts own) (hM : vx_Met l y ws rm Pc Qc XC mc ms free) (cw : vx_CVW R s args own C index y bytes maxL ret hh ws rm mc ms n) (hp : PreV s H C b Pc As)
    (hg : g.method = m) (hn : As.length = n) (hsize : g.locals.size = nL) (hstack : g.stack = As.reverse ++ .ref b :: rest) (hW : 2 * g.monitorRoom + (rest.map fun v => v.category).sum ≤ 8) (hdg : decode cc g.pc = .ok (.invokevirtual index, 3)) (hf : cells + mc ≤ R.cells ∧ slots + ms ≤ R.slots) :
    vx_Run p l e R s m args below meth c H locs cells slots mc ms g rest (Qc (Value.ref b :: As).toArray) XC free := by
  obtain ⟨⟨hrc, hrs, hfr, hlo, hws, hcw⟩, hcode, hini, hy, hlen, hl, hin, hse⟩ := cw
  have hK : vx_Back l R p e below s args y 3 8 (PreOf R mc ms Pc) (PostOf Qc mc ms free) (vx_Post XC mc ms free) := vx_backW (hh := hh) (bytes := bytes) (maxL := maxL) (ret := ret) hM hp.1 hrc hrs hfr hlo hws hcw (fun a' U hW => word_at hW (Or.inl (by first | rfl | simp [Cond.onTables, Cond.keeps, Cond.steady])) hini)
  obtain ⟨hx, hb, hml, ho, -⟩ := S
  obtain ⟨-, ⟨cellB, hcB, hoB, hclB⟩, hPc⟩ := hp
  intro T hT X
  rcases vx_callVX X hx (C := C) (hh := hh) (bytes := bytes) (maxL := maxL) (ret := ret) ho hl hin hse hcode hy hK (by rw [hT]; exact hcB) hoB hclB hg (hsize.trans hml.symm) (argsL := As) (rest := rest) (fun sig h => hn.trans (hlen sig h)) hstack hW (by rw [hb]; exact hdg)
    (fun vm₁ hW₁ => ⟨hf.1, hf.2, hPc (T.setVm vm₁) hT hW₁⟩) with ⟨v, vm₁, ⟨U', l2, c2, s2⟩, hW₁, X', ⟨g', mk, t, L, e1, e2, hq, h1, hL, h2, h3⟩, st⟩ | ⟨q, vm₁, ⟨U', l2, c2, s2⟩, hW₁, X', ⟨g', mk, t, L, E, ce, e1, e2, hq, hce, hcv, hcl, h1, hL, h2, h3⟩, st⟩
  · dsimp only [Pt.U, Pt.locs, Pt.cells, Pt.slots] at X' e1 e2 h1 h2 h3 st
    subst h1; subst h2; subst h3
    exact Or.inl ⟨v, (T.setVm vm₁).calling g' mk (Value.ref b :: As).toArray, t, U', L, hT, X', hL, e1, e2, hq, st⟩
  · dsimp only [Pt.U, Pt.locs, Pt.cells, Pt.slots] at X' e1 e2 h1 h2 h3 st hcl
    subst h1; subst h2; subst h3
    exact Or.inr ⟨q, (T.setVm vm₁).calling g' mk (Value.ref b :: As).toArray, t, U', L, E, ce, hT, X', hL, e1, e2, hq, hce, hcv, vx_cls hW₁ hcl, st⟩
theorem vx_runSX {hh : List (Nat × Nat × Nat × Nat)} (S : CallFix p m c cc nL s args Ts own) (hM : vx_Met l y ws rm Pc Qc XC mc ms free) (cw : vx_CSW R s args own index y bytes maxL ret hh ws rm mc ms n) (hp : PreS s H Pc As)
    (hg : g.method = m) (hn : As.length = n) (hsize : g.locals.size = nL) (hstack : g.stack = As.reverse ++ rest) (hW : 2 * g.monitorRoom + (rest.map fun v => v.category).sum ≤ 8) (hdg : decode cc g.pc = .ok (.invokestatic index, 3)) (hf : cells + mc ≤ R.cells ∧ slots + ms ≤ R.slots) :
    vx_Run p l e R s m args below meth c H locs cells slots mc ms g rest (Qc As.toArray) XC free := by
  obtain ⟨⟨hrc, hrs, hfr, hlo, hws, hcw⟩, hcode, hini, hy, hlen, hl, hstt⟩ := cw
  have hK : vx_Back l R p e below s args y 3 8 (PreOf R mc ms Pc) (PostOf Qc mc ms free) (vx_Post XC mc ms free) := vx_backW (hh := hh) (bytes := bytes) (maxL := maxL) (ret := ret) hM hp.1 hrc hrs hfr hlo hws hcw (fun a' U hW => word_at hW (Or.inl (by first | rfl | simp [Cond.onTables, Cond.keeps, Cond.steady])) hini)
  obtain ⟨hx, hb, hml, ho, -⟩ := S
  intro T hT X
  rcases vx_callSX X hx (hh := hh) (bytes := bytes) (maxL := maxL) (ret := ret) ho hl hstt hini hcode hy hK hg (hsize.trans hml.symm) (argsL := As) (rest := rest) (fun sig h => hn.trans (hlen sig h)) hstack hW (by rw [hb]; exact hdg)
    (fun vm₁ hW₁ => ⟨hf.1, hf.2, hp.2 (T.setVm vm₁) hT hW₁⟩) with ⟨v, vm₁, ⟨U', l2, c2, s2⟩, hW₁, X', ⟨g', mk, t, L, e1, e2, hq, h1, hL, h2, h3⟩, st⟩ | ⟨q, vm₁, ⟨U', l2, c2, s2⟩, hW₁, X', ⟨g', mk, t, L, E, ce, e1, e2, hq, hce, hcv, hcl, h1, hL, h2, h3⟩, st⟩
  · dsimp only [Pt.U, Pt.locs, Pt.cells, Pt.slots] at X' e1 e2 h1 h2 h3 st
    subst h1; subst h2; subst h3
    exact Or.inl ⟨v, (T.setVm vm₁).calling g' mk As.toArray, t, U', L, hT, X', hL, e1, e2, hq, st⟩
  · dsimp only [Pt.U, Pt.locs, Pt.cells, Pt.slots] at X' e1 e2 h1 h2 h3 st hcl
    subst h1; subst h2; subst h3
    exact Or.inr ⟨q, (T.setVm vm₁).calling g' mk As.toArray, t, U', L, E, ce, hT, X', hL, e1, e2, hq, hce, hcv, vx_cls hW₁ hcl, st⟩
end
end VXH
theorem vx_ofWH {l : Launch} {y : MethodName} {ws ws' : List Cond} {rm : Room} {Pc : Array Value → State → Prop} {Qc : Array Value → State → Outcome → State → Prop} {XC : String → State → State → Prop} {mc ms : Nat} {free : Addr → Prop} {cc : ByteArray} {maxL : Nat} {ret : Option FieldType} {hh : List (Nat × Nat × Nat × Nat)}
    (hy : plainName y.cls = true) (hw : ws = Cond.codeWith y cc maxL ret hh :: ws')
    (body : ∀ p e s m args below meth c s₁, BodyLoose p l y (headSpec ws rm) cc maxL ret e s m args below meth c s₁ → c.maxLocals = maxL → Pc args s →
      W p l e (headSpec ws rm).room s m args below meth c s.heap [] 0 0 (vx_MQ below Qc XC args s mc ms free) (entryFrame m args maxL)) : vx_Met l y ws rm Pc Qc XC mc ms free := by
  refine MetFree.of_bodyS (code := cc) (maxLocals := maxL) (ret := ret) hy ?_ ?_
  · intro args s m h hn
    obtain ⟨m9, meth, c, hn9, h1, h2, h3, h4, -, h5, h6, -⟩ := Cond.codeWith_spec (atoms_spec (ws := ws) h _ (by rw [hw]; exact List.mem_cons_self))
    cases hn.symm.trans hn9
    exact ⟨meth, c, h1, h2, h3, h4, h5, h6⟩
  · intro p e s m args below meth c s₁ B hml hP _
    have hh0 : s₁.heap = s.heap := by rw [B.state]; rfl
    obtain ⟨t, a1, o, b1, b2, b3⟩ := body p e s m args below meth c s₁ B hml hP s₁ hh0 (Stand.of_body B)
    exact ⟨t, o, a1, b1, b2, b3⟩
/-! ===== END ===== -/
/-! ===== BEGIN what the machine throws by itself, no traces kept ===== -/
section VXM
set_option maxHeartbeats 1000000 in
/-- the machine throws cls with the message text, no traces kept: from its note over the frame g to 'throwing' over the same frame (follows the proofs of Stand.vmThrowsMessage, Shelf/KitTracedVmS.lean, and Stand.throwsMessageColdBareV, StandMessageColdV.lean, without the step out of the frame) -/
theorem vx_vmAt {p : Program} {l : Launch} {e : Env} {R : Room} {s : State} {m₀ : MethodId} {args : Array Value} {below : List Frame} {meth : Method} {c : Code} {W : State} {locs : List Loc} {cells slots : Nat}
    (X : Stand p l e R s m₀ args below meth c W locs cells slots) (hexec : p.tables.exec = Jvm.exec) (htr : e.platform.stackTraces = false) {cls : String} {names : List String} {text : String}
    (hcls : Bundle.fit cls = true) (hnames : ∀ n ∈ names, Bundle.fit n = true) (hsoe : (cls == "java/lang/StackOverflowError") = false) (hoom : (cls == "java/lang/OutOfMemoryError") = false)
    (h : ∀ a ∈ Bundle.messageArmAtoms cls names, a.before args s = true)
    (hlocs : ∀ x ∈ locs, ∀ cell, s.heap[x.base]? = some cell → cell.vm.isStatics = false)
    (htext : (text == notModelled) = false) (hlimit : ¬ (stringBytes (stringToUtf16 text)).size > e.platform.arrayLengthLimit) (hheap : ¬ (stringBytes (stringToUtf16 text)).size * componentBytes .byte > e.platform.maxHeapBytes)
    {g : JFrame} (hg : g.method = m₀) (hsize : g.locals.size = c.maxLocals)
    (hRframes : names.length + 4 < R.frames) (hRlocals : 2 * g.monitorRoom + (g.stack.map fun v => v.category).sum + 10240 ≤ R.locals) (hshort : 13 * names.length + 55 ≤ 10240)
    (hRcells : cells + 3 ≤ R.cells) (hRslots : slots + ((stringBytes (stringToUtf16 text)).size + 4 + 6) ≤ R.slots) (hlocks : meth.locks = false) :
    ∃ (S : State) (q : Addr) (ce : Cell), (∀ target, Steps p.tables e below ((S.setTop g).pushFrame (.throwing q)) target → Steps p.tables e below ((W.setTop g).pushFrame (.throwNew cls (some text) none)) target) ∧
      Stand p l e R s m₀ args below meth c S locs (cells + 3) (slots + ((stringBytes (stringToUtf16 text)).size + 4 + 6)) ∧ S.heap[q]? = some ce ∧ s.vm.findClass cls = some ce.cls ∧ ce.vm = .none := by
  have howns : e.platform.frameOwnsMonitors = true := by rw [X.admits.platform]
  have hfin : e.platform.finalization = false := by rw [X.admits.platform]
  have hpl : e.platform.magicAccessors = ({} : Platform).magicAccessors := by rw [X.admits.platform]
  have a : ∀ x, x ∈ Bundle.messageArmAtoms cls names → x.holds args s none s [] = true := fun x hx => h x hx
  obtain ⟨T, Z0, L, -, Y⟩ := ThrowableC.of_atoms (args := args) howns hfin hpl (fun x hx => h x (by simp [Bundle.messageArmAtoms, hx]))
  obtain ⟨Z, M, LZ, LM, hnZ⟩ := Init0T.ofS_atoms (args := args) hpl L Y (fun x hx => h x (by simp [Bundle.messageArmAtoms, hx]))
  obtain ⟨P1, Ps, hlen, L1, hL, hP1m, hlink1, hlink⟩ := Bundle.chainS (args := args) hpl hnZ names cls hcls hnames (fun x hx => h x (by simp [Bundle.messageArmAtoms, hx]))
  obtain ⟨Zs, LZs, hn4, hfitv, hfitc⟩ := StringT.of_atoms (args := args) (fun x hx => h x (by simp [Bundle.messageArmAtoms, hx]))
  have hfound : s.vm.findClass cls = some P1.m.cls := findClass_of_methodNamed hP1m
  obtain ⟨c1, kX, hc1, hk, hord, -, -, hn6⟩ := Cond.instantiable_spec (a (.instantiable cls 6) (by simp [Bundle.messageArmAtoms]))
  cases Option.some.inj (hc1.symm.trans hfound)
  have hinit := Cond.initialized_spec hfound hk (a (.initialized cls) (by simp [Bundle.messageArmAtoms]))
  have hctor : kX.findMethod "<init>" "(Ljava/lang/String;)V" = some P1.m.idx := findMethod_of_methodNamed hP1m hk
  have hsel0 : selectMethod e.platform s.vm P1.m.cls T.fill0 = .method T.fill0 := by
    obtain ⟨c2, r2, m2, q1, q2, q3, q4, -⟩ := Cond.selects_spec (a (.selects cls Bundle.tFill0 Bundle.tFill0) (by simp [Bundle.messageArmAtoms]))
    cases Option.some.inj (q1.symm.trans hfound)
    cases Option.some.inj (q2.symm.trans (State.methodFound?_of_named Y.fill0 (by decide)))
    cases Option.some.inj (q3.symm.trans Y.fill0)
    rw [Launch.admits_selectMethod X.admits]; exact q4
  have hselF : selectMethod e.platform s.vm P1.m.cls T.fill = .method T.fill := by
    obtain ⟨c2, r2, m2, q1, q2, q3, q4, -⟩ := Cond.selects_spec (a (.selects cls Bundle.tFill Bundle.tFill) (by simp [Bundle.messageArmAtoms]))
    cases Option.some.inj (q1.symm.trans hfound)
    cases Option.some.inj (q2.symm.trans (State.methodFound?_of_named Y.fill (by decide)))
    cases Option.some.inj (q3.symm.trans Y.fill)
    rw [Launch.admits_selectMethod X.admits]; exact q4
  obtain ⟨cellS0, hcS0, hiss⟩ := Y.statics
  obtain ⟨u0, hu0⟩ := Cond.staticRefV Y.unassigned L.unassignedStatic L.statics hcS0 hiss (a (.isRef (.static Bundle.tN "UNASSIGNED_STACK" Bundle.steD)) (by simp [Bundle.messageArmAtoms]))
  obtain ⟨sen, hsen⟩ := Cond.staticRefV Y.sentinel L.sentinelStatic L.statics hcS0 hiss (a (.isRef (.static Bundle.tN "SUPPRESSED_SENTINEL" Bundle.listD)) (by simp [Bundle.messageArmAtoms]))
  obtain ⟨ci198, i198, fB, hk198, hg198, ha198, hsB, -, hnB, htB, hffB⟩ := Cond.ownField (t := .object "java/lang/Object") Y.found L.cls (by decide +kernel) (a (.fieldLink Bundle.tN 198 Bundle.tN "backtrace" "Ljava/lang/Object;") (by simp [Bundle.messageArmAtoms])) (a (.lays Bundle.tN Bundle.tN "backtrace" "Ljava/lang/Object;") (by simp [Bundle.messageArmAtoms])) e.platform hpl
  obtain ⟨cellS, hcS', heS, -, hkeep⟩ := X.same.2.2.2.2.2 T.aS cellS0 hcS0
  have hcellS : W.heap[T.aS]? = some cellS := hcS'
  have hout' : ∀ i, (⟨T.aS, i⟩ : Loc) ∉ locs := fun i hmem => by
    have := hlocs _ hmem cellS0 hcS0
    rw [hiss] at this; cases this
  have hknownS : cellS.vm ≠ .unknown := by
    rw [heS]; intro hu
    rw [show cellS0.vm = .unknown from hu] at hiss
    cases hiss
  have hvU : cellS.slots[T.fUnassigned.slot]? = some u0.v := by rw [hkeep _ (hout' _)]; exact hu0
  have hvSen : cellS.slots[T.fSentinel.slot]? = some sen.v := by rw [hkeep _ (hout' _)]; exact hsen
  obtain ⟨iM, hffM⟩ := Y.msg
  obtain ⟨tyC, dC, hdC, hdnC⟩ := Cond.laysAt hfound hk Y.cause (a (.lays cls Bundle.tN "cause" "Ljava/lang/Throwable;") (by simp [Bundle.messageArmAtoms]))
  obtain ⟨tyS, dS, hdS, hdnS⟩ := Cond.laysAt hfound hk Y.stack (a (.lays cls Bundle.tN "stackTrace" Bundle.steD) (by simp [Bundle.messageArmAtoms]))
  obtain ⟨tyP, dP, hdP, hdnP⟩ := Cond.laysAt hfound hk Y.supp (a (.lays cls Bundle.tN "suppressedExceptions" Bundle.listD) (by simp [Bundle.messageArmAtoms]))
  obtain ⟨tyM, dM, hdM, hdnM⟩ := Cond.laysAt hfound hk hffM (a (.lays cls Bundle.tN "detailMessage" "Ljava/lang/String;") (by simp [Bundle.messageArmAtoms]))
  obtain ⟨tyB, dB, hdB, hdnB⟩ := Cond.laysAt hfound hk hffB (a (.lays cls Bundle.tN "backtrace" "Ljava/lang/Object;") (by simp [Bundle.messageArmAtoms]))
  have bC := Cond.laysApart hdB hdC hdnB hdnC (by rw [hnB, Y.causeName]; decide)
  have bS := Cond.laysApart hdB hdS hdnB hdnS (by rw [hnB, Y.stackName]; decide)
  have bP := Cond.laysApart hdB hdP hdnB hdnP (by rw [hnB, Y.suppName]; decide)
  have hbk : ((preparedCellV T.toThrowableT (freshCell P1.m.cls kX) (W.heap.size + 2) u0 sen).withEntry W.cur).slots[fB.slot]? = some .null := by
    have := fresh_default (c := P1.m.cls) tyB
    rw [htB] at this
    simpa [preparedCellV, Cell.setSlot, Cell.withEntry, Array.getElem?_setIfInBounds, bC, bS, bP, bC.symm, bS.symm, bP.symm, defaultValue] using this
  have tkC := Takes.of_laid (v := .ref (W.heap.size + 2)) hk hord tyC (by rw [Y.causeType]; rfl)
  have tkS := Takes.of_laid (v := u0.v) hk hord tyS (by rw [Y.stackType]; exact fits_refV_array _ u0)
  have tkP := Takes.of_laid (v := sen.v) hk hord tyP (by rw [Y.suppType]; exact fits_refV_object _ sen)
  have tkM := Takes.of_laid (v := .ref (W.heap.size + 1)) hk hord tyM (by rw [Y.msgType]; rfl)
  have hskip : SkipFacts T e.platform s (fun u => u) u0 ((preparedCellV T.toThrowableT (freshCell P1.m.cls kX) (W.heap.size + 2) u0 sen).withEntry W.cur) := ⟨{ ci198 := ci198, i198 := i198, fBack := fB }, ⟨hk198, hg198, ha198, hsB⟩, hbk, fun _ _ => rfl⟩
  have h0 : At W g.method c below := by rw [hg]; exact X.here
  obtain ⟨hbeyond, hfreeW⟩ := X.vmMayThrow hsize (.throwNew cls (some text) none) (fun f hf => by cases hf) rfl hRlocals
  have hfr' : W.frames.length + Ps.length + 4 < (e.platform.stackLimits W.me).1 := by have := X.framesAbove hRframes; omega
  have hwd' : (stackUse (.java g :: W.frames.tail)).2 + 13 * Ps.length + 55 ≤ (e.platform.stackLimits W.me).2 := by have := X.stackAbove hsize (K := 13 * Ps.length + 55) (by omega); omega
  have hslots : W.slotsUsed + (stringBytes (stringToUtf16 text)).size + Zs.kS.instanceTypes.size + kX.instanceTypes.size ≤ e.platform.maxSlots := by
    have := X.slotsAbove hRslots
    rw [hn4, hn6]
    omega
  obtain ⟨vm', hW', st⟩ := Steps.vmThrowsMessageColdByV p (s₀ := s) (S := W) (g := g) h0 hexec T L Z LZ M LM X.warmed (t := W.cur) rfl Zs LZs P1 L1 Ps hL hlink1 hlink hsoe hoom hfound hk hinit hord hctor
    (Launch.admits_hotImplicitExceptions X.admits) hbeyond hfreeW htext hlimit hheap (X.cellsAbove hRcells) hslots (hfitv _) (hfitc _)
    (Nn := fun u => u) heapOnly_id (fun _ _ => rfl) (fun _ => rfl) (fun u x y => setCell_twice _ _ _ _) (fun _ => Nat.le_refl _) (cN := ((preparedCellV T.toThrowableT (freshCell P1.m.cls kX) (W.heap.size + 2) u0 sen).withEntry W.cur))
    hsel0 hcellS hknownS hvU tkS (fun _ hu => hu) (fun _ hu => hu) rfl rfl rfl (by simp [preparedCellV, Cell.setSlot, Cell.withEntry]) hskip (fun _ _ hA hW _ hroom _ hrest => L.nativeOff p htr hA hW hroom hrest) hselF hvSen tkC tkP tkM Y.objLocals rfl hfr' hwd'
  rw [plainBareV_eq T.toThrowableT (W.heap.size + 2) u0 sen (.ref (W.heap.size + 1)) W.cur rfl rfl] at st
  obtain ⟨-, -, w3, w4, -, -, -⟩ := withThrown_facts e.platform W Zs text P1.m.cls kX
  have X3 := ((X.pushed (bytesOf Zs.cB (stringToUtf16 text))).pushed (stringAt Zs.cS Zs.kS Zs.fv Zs.fc (stringToUtf16 text) W.heap.size)).pushed (freshCell P1.m.cls kX)
  rw [← withString_eq] at X3
  have X4 := X3.noted hW'
  have ha : (W.heap.size + 2) < ((withThrown W Zs text P1.m.cls kX).setVm vm').heap.size := by show _ < (withThrown W Zs text P1.m.cls kX).heap.size; rw [w3]; omega
  have hcell : ((withThrown W Zs text P1.m.cls kX).setVm vm').heap[(W.heap.size + 2)]? = some (freshCell P1.m.cls kX) := w4
  have X5 := ((((X4.stored hcell T.fCause.slot (.ref (W.heap.size + 2))).storedAgain ha T.fStack.slot u0.v).storedAgain ha T.fSupp.slot sen.v).storedAgain ha T.fStack.slot u0.v).storedAgain ha T.fMsg.slot (.ref (W.heap.size + 1))
  obtain ⟨g₁, hfrM⟩ := X5.frames_eq
  have hU : ((((withThrown W Zs text P1.m.cls kX).setVm vm').setCell (W.heap.size + 2) (plainBareV T.toThrowableT (freshCell P1.m.cls kX) (W.heap.size + 2) u0 sen (.ref (W.heap.size + 1)))).setTop g).pushFrame (.throwing (W.heap.size + 2)) = (((withThrown W Zs text P1.m.cls kX).setVm vm').setCell (W.heap.size + 2) (plainBareV T.toThrowableT (freshCell P1.m.cls kX) (W.heap.size + 2) u0 sen (.ref (W.heap.size + 1)))).setFrames (.throwing (W.heap.size + 2) :: .java g :: below) := by
    rw [State.pushFrame, State.frames_setTop _ hfrM, State.setTop_of_frames _ hfrM, State.setFrames_setFrames]
  have b1 : (bytesOf Zs.cB (stringToUtf16 text)).slots.size = (stringBytes (stringToUtf16 text)).size := by
    rw [(Cell.writeAll_facts _ _).2.2]; simp [bytes0]
  have b2 : (stringAt Zs.cS Zs.kS Zs.fv Zs.fc (stringToUtf16 text) W.heap.size).slots.size = 4 := by simp [string0, Cell.setSlot, hn4]
  have b3 : (freshCell P1.m.cls kX).slots.size = 6 := by simp [hn6]
  rw [b1, b2, b3] at X5
  have e9 : slots + (stringBytes (stringToUtf16 text)).size + 4 + 6 = slots + ((stringBytes (stringToUtf16 text)).size + 4 + 6) := by omega
  rw [e9] at X5
  simp only [List.append_assoc, List.cons_append, List.nil_append] at X5
  refine ⟨((withThrown W Zs text P1.m.cls kX).setVm vm').setCell (W.heap.size + 2) (plainBareV T.toThrowableT (freshCell P1.m.cls kX) (W.heap.size + 2) u0 sen (.ref (W.heap.size + 1))), W.heap.size + 2, _, fun target ht => st _ (by rw [X.tail, ← hU]; exact ht),
    X5.forget (fun y hy => ?_), heapAt_setCell_self _ ha, hfound, rfl⟩
  simp only [List.mem_cons, List.not_mem_nil, or_false] at hy
  have hge : s.heap.size ≤ W.heap.size := X.same.2.1
  rcases hy with rfl | rfl | rfl | rfl | rfl <;> exact Nat.le_trans hge (Nat.le_add_right _ 2)
set_option maxHeartbeats 1000000 in
/-- the machine throws NullPointerException, no traces kept: from its note over the frame g to 'throwing' over the same frame (follows the proof of Stand.vmThrowsNpe, Shelf42/KT2.lean; throwsNpeColdBareVAt, Shelf42/NT91.lean, called) -/
theorem vx_npeAt {p : Program} {l : Launch} {e : Env} {R : Room} {s : State} {m₀ : MethodId} {args : Array Value} {below : List Frame} {meth : Method} {c : Code} {W : State} {locs : List Loc} {cells slots : Nat}
    (X : Stand p l e R s m₀ args below meth c W locs cells slots) (hexec : p.tables.exec = Jvm.exec) (htr : e.platform.stackTraces = false) {n : Nat}
    (h : ∀ a ∈ Bundle.npeArmAtoms n, a.before args s = true)
    (hlocs : ∀ x ∈ locs, ∀ cell, s.heap[x.base]? = some cell → cell.vm.isStatics = false)
    {g : JFrame} (hg : g.method = m₀) (hsize : g.locals.size = c.maxLocals)
    (hRframes : 7 < R.frames) (hRlocals : 2 * g.monitorRoom + (g.stack.map fun v => v.category).sum + 10240 ≤ R.locals)
    (hRcells : cells + 1 ≤ R.cells) (hRslots : slots + n ≤ R.slots) (hlocks : meth.locks = false) :
    ∃ (S : State) (q : Addr) (ce : Cell), (∀ target, Steps p.tables e below ((S.setTop g).pushFrame (.throwing q)) target → Steps p.tables e below ((W.setTop g).pushFrame (.throwNew "java/lang/NullPointerException" none none)) target) ∧
      Stand p l e R s m₀ args below meth c S locs (cells + 1) (slots + n) ∧ S.heap[q]? = some ce ∧ s.vm.findClass "java/lang/NullPointerException" = some ce.cls ∧ ce.vm = .none := by
  have howns : e.platform.frameOwnsMonitors = true := by rw [X.admits.platform]
  have hfin : e.platform.finalization = false := by rw [X.admits.platform]
  have hpl : e.platform.magicAccessors = ({} : Platform).magicAccessors := by rw [X.admits.platform]
  have hpl2 : e.platform.arrayCloneIsPublic = true := by rw [X.admits.platform]
  have a' : ∀ x, x ∈ Bundle.npeArmAtoms n → x.holds args s none s [] = true := fun x hx => h x hx
  obtain ⟨T, Z, L, LZ, Y⟩ := ThrowableC.of_atoms (args := args) howns hfin hpl (fun x hx => h x (by simp [Bundle.npeArmAtoms, hx]))
  obtain ⟨N, LN, hcN, hnNF, hordN, hffS⟩ := NpeC.of_atoms (args := args) hpl hpl2 L Y (fun x hx => h x (by simp [Bundle.npeArmAtoms, hx]))
  obtain ⟨P1, L1, hP1m, hP1s⟩ := PassC.of_atoms (args := args) (s := s) hpl (X := Bundle.nN) (Y := Bundle.rN) (by decide) (by decide) LibCode.NullPointerException.Init0.at_0 LibCode.NullPointerException.Init0.at_1 LibCode.NullPointerException.Init0.at_4 (fun x hx => h x (by simp [Bundle.npeArmAtoms, hx]))
  obtain ⟨PR, LR, hPRm, hPRs⟩ := PassC.of_atoms (args := args) (s := s) hpl (X := Bundle.rN) (Y := Bundle.eN) (by decide) (by decide) LibCode.RuntimeException.Init0.at_0 LibCode.RuntimeException.Init0.at_1 LibCode.RuntimeException.Init0.at_4 (fun x hx => h x (by simp [Bundle.npeArmAtoms, hx]))
  obtain ⟨PE, LEx, hPEm, hPEs⟩ := PassC.of_atoms (args := args) (s := s) hpl (X := Bundle.eN) (Y := Bundle.tN) (by decide) (by decide) LibCode.Exception.Init0.at_0 LibCode.Exception.Init0.at_1 LibCode.Exception.Init0.at_4 (fun x hx => h x (by simp [Bundle.npeArmAtoms, hx]))
  have hfound : s.vm.findClass Bundle.nN = some P1.m.cls := findClass_of_methodNamed hP1m
  have ecls : N.cN = P1.m.cls := Option.some.inj (hcN.symm.trans hfound)
  have hk : s.vm.classes[P1.m.cls]? = some N.kN := by rw [← ecls]; exact LN.cls
  have hinit := Cond.initialized_spec hfound hk (a' (.initialized Bundle.nN) (by simp [Bundle.npeArmAtoms]))
  have hctor : N.kN.findMethod "<init>" "()V" = some P1.m.idx := findMethod_of_methodNamed hP1m hk
  obtain ⟨c1, k1, hc1, hk1, -, -, -, hn⟩ := Cond.instantiable_spec (a' (.instantiable Bundle.nN n) (by simp [Bundle.npeArmAtoms]))
  cases Option.some.inj (hc1.symm.trans hfound)
  cases Option.some.inj (hk1.symm.trans hk)
  have hfsz : (freshCell P1.m.cls N.kN).slots.size = n := by simp [hn]
  have hlink1 : P1.sup = PR.m := Option.some.inj (hP1s.symm.trans hPRm)
  have hlinkR : PR.sup = PE.m := Option.some.inj (hPRs.symm.trans hPEm)
  have hlinkE : PE.sup = Z.m T.toThrowableT := Option.some.inj (hPEs.symm.trans Y.init0)
  have hLs : ∀ P, P ∈ [PR, PE] → P.Links0 e.platform s := fun P hP => by
    simp only [List.mem_cons, List.not_mem_nil, or_false] at hP
    rcases hP with rfl | rfl
    · exact LR
    · exact LEx
  have hsel0 : selectMethod e.platform s.vm P1.m.cls T.fill0 = .method T.fill0 := by
    obtain ⟨c2, r2, m2, q1, q2, q3, q4, -⟩ := Cond.selects_spec (a' (.selects Bundle.nN Bundle.tFill0 Bundle.tFill0) (by simp [Bundle.npeArmAtoms]))
    cases Option.some.inj (q1.symm.trans hfound)
    cases Option.some.inj (q2.symm.trans (State.methodFound?_of_named Y.fill0 (by decide)))
    cases Option.some.inj (q3.symm.trans Y.fill0)
    rw [Launch.admits_selectMethod X.admits]; exact q4
  have hselF : selectMethod e.platform s.vm P1.m.cls T.fill = .method N.fill := by
    obtain ⟨c2, r2, m2, q1, q2, q3, q4, -⟩ := Cond.selects_spec (a' (.selects Bundle.nN Bundle.tFill Bundle.nFill) (by simp [Bundle.npeArmAtoms]))
    cases Option.some.inj (q1.symm.trans hfound)
    cases Option.some.inj (q2.symm.trans (State.methodFound?_of_named Y.fill (by decide)))
    cases Option.some.inj (q3.symm.trans hnNF)
    rw [Launch.admits_selectMethod X.admits]; exact q4
  obtain ⟨cellS0, hcS0, hiss⟩ := Y.statics
  obtain ⟨u0, hu0⟩ := Cond.staticRefV Y.unassigned L.unassignedStatic L.statics hcS0 hiss (a' (.isRef (.static Bundle.tN "UNASSIGNED_STACK" Bundle.steD)) (by simp [Bundle.npeArmAtoms]))
  obtain ⟨sen, hsen⟩ := Cond.staticRefV Y.sentinel L.sentinelStatic L.statics hcS0 hiss (a' (.isRef (.static Bundle.tN "SUPPRESSED_SENTINEL" Bundle.listD)) (by simp [Bundle.npeArmAtoms]))
  obtain ⟨ci198, i198, fB, hk198, hg198, ha198, hsB, -, hnB, htB, hffB⟩ := Cond.ownField (t := .object "java/lang/Object") Y.found L.cls (by decide +kernel) (a' (.fieldLink Bundle.tN 198 Bundle.tN "backtrace" Bundle.objD) (by simp [Bundle.npeArmAtoms])) (a' (.lays Bundle.tN Bundle.tN "backtrace" Bundle.objD) (by simp [Bundle.npeArmAtoms])) e.platform hpl
  obtain ⟨cellS, hcS', heS, -, hkeep⟩ := X.same.2.2.2.2.2 T.aS cellS0 hcS0
  have hcellS : W.heap[T.aS]? = some cellS := hcS'
  have hout' : ∀ i, (⟨T.aS, i⟩ : Loc) ∉ locs := fun i hmem => by
    have := hlocs _ hmem cellS0 hcS0
    rw [hiss] at this; cases this
  have hknownS : cellS.vm ≠ .unknown := by
    rw [heS]; intro hu
    rw [show cellS0.vm = .unknown from hu] at hiss
    cases hiss
  have hvU : cellS.slots[T.fUnassigned.slot]? = some u0.v := by rw [hkeep _ (hout' _)]; exact hu0
  have hvSen : cellS.slots[T.fSentinel.slot]? = some sen.v := by rw [hkeep _ (hout' _)]; exact hsen
  obtain ⟨tyC, dC, hdC, hdnC⟩ := Cond.laysAt hfound hk Y.cause (a' (.lays Bundle.nN Bundle.tN "cause" "Ljava/lang/Throwable;") (by simp [Bundle.npeArmAtoms]))
  obtain ⟨tyS, dS, hdS, hdnS⟩ := Cond.laysAt hfound hk Y.stack (a' (.lays Bundle.nN Bundle.tN "stackTrace" Bundle.steD) (by simp [Bundle.npeArmAtoms]))
  obtain ⟨tyP, dP, hdP, hdnP⟩ := Cond.laysAt hfound hk Y.supp (a' (.lays Bundle.nN Bundle.tN "suppressedExceptions" Bundle.listD) (by simp [Bundle.npeArmAtoms]))
  obtain ⟨tyX, dX, hdX, hdnX⟩ := Cond.laysAt hfound hk hffS (a' (.lays Bundle.nN Bundle.nN "extendedMessageState" "I") (by simp [Bundle.npeArmAtoms, Bundle.npeAtoms]))
  obtain ⟨hnX, htX⟩ := State.fieldFound?_type hffS (t := .int) (by decide +kernel)
  have xC := Cond.laysApart hdC hdX hdnC hdnX (by rw [hnX, Y.causeName]; decide)
  have xS := Cond.laysApart hdS hdX hdnS hdnX (by rw [hnX, Y.stackName]; decide)
  have xP := Cond.laysApart hdP hdX hdnP hdnX (by rw [hnX, Y.suppName]; decide)
  have hv0 : (freshCell P1.m.cls N.kN).slots[N.fState.slot]? = some (.int 0) := by
    have := fresh_default (c := P1.m.cls) tyX
    rw [htX] at this; exact this
  obtain ⟨tyB, dB, hdB, hdnB⟩ := Cond.laysAt hfound hk hffB (a' (.lays Bundle.nN Bundle.tN "backtrace" Bundle.objD) (by simp [Bundle.npeArmAtoms]))
  have bC := Cond.laysApart hdB hdC hdnB hdnC (by rw [hnB, Y.causeName]; decide)
  have bS := Cond.laysApart hdB hdS hdnB hdnS (by rw [hnB, Y.stackName]; decide)
  have bP := Cond.laysApart hdB hdP hdnB hdnP (by rw [hnB, Y.suppName]; decide)
  have bX := Cond.laysApart hdB hdX hdnB hdnX (by rw [hnB, hnX]; decide)
  have hbk : ((npeCell N.toNpeT (preparedCellV T.toThrowableT (freshCell P1.m.cls N.kN) W.heap.size u0 sen) W.cur).withEntry W.cur).slots[fB.slot]? = some .null := by
    have := fresh_default (c := P1.m.cls) tyB
    rw [htB] at this
    simpa [npeCell, preparedCellV, Cell.setSlot, Cell.withEntry, Array.getElem?_setIfInBounds, bC, bS, bP, bX, bC.symm, bS.symm, bP.symm, bX.symm, defaultValue] using this
  have tkC := Takes.of_laid (v := .ref W.heap.size) hk hordN tyC (by rw [Y.causeType]; rfl)
  have tkS := Takes.of_laid (v := u0.v) hk hordN tyS (by rw [Y.stackType]; exact fits_refV_array _ u0)
  have tkP := Takes.of_laid (v := sen.v) hk hordN tyP (by rw [Y.suppType]; exact fits_refV_object _ sen)
  have tkX := Takes.of_laid (v := .int 1) hk hordN tyX (by rw [htX]; rfl)
  have hskip : SkipFacts T e.platform s (fun u => u) u0 ((npeCell N.toNpeT (preparedCellV T.toThrowableT (freshCell P1.m.cls N.kN) W.heap.size u0 sen) W.cur).withEntry W.cur) := ⟨{ ci198 := ci198, i198 := i198, fBack := fB }, ⟨hk198, hg198, ha198, hsB⟩, hbk, fun _ _ => rfl⟩
  obtain ⟨vm', X3, st, -⟩ := X.throwsNpeColdBareVAt hexec hg hsize T L Z LZ N LN P1 L1 [PR, PE] hLs hlink1 ⟨hlinkR, hlinkE, trivial⟩ hfound hk hinit hordN hctor hsel0 hselF hcellS hknownS hvU hvSen
    hv0 xC xS xP tkC tkS tkP tkX Y.objLocals hskip (fun _ _ hA hW _ hroom _ hrest => L.nativeOff p htr hA hW hroom hrest) (by simpa using hRframes) hRlocals (by simp) hRcells (by rw [hn]; exact hRslots)
  have hlt : W.heap.size < ((W.pushCell (freshCell P1.m.cls N.kN)).setVm vm').heap.size := by
    show W.heap.size < (W.pushCell (freshCell P1.m.cls N.kN)).heap.size
    rw [State.heap_size_pushCell]; omega
  rw [hfsz] at X3
  obtain ⟨g₁, hfrM⟩ := X3.frames_eq
  have hU : ((((W.pushCell (freshCell P1.m.cls N.kN)).setVm vm').setCell W.heap.size (npeBareV T.toThrowableT N.toNpeT (freshCell P1.m.cls N.kN) W.heap.size u0 sen)).setTop g).pushFrame (.throwing W.heap.size) = (((W.pushCell (freshCell P1.m.cls N.kN)).setVm vm').setCell W.heap.size (npeBareV T.toThrowableT N.toNpeT (freshCell P1.m.cls N.kN) W.heap.size u0 sen)).setFrames (.throwing W.heap.size :: .java g :: below) := by
    rw [State.pushFrame, State.frames_setTop _ hfrM, State.setTop_of_frames _ hfrM, State.setFrames_setFrames]
  refine ⟨_, W.heap.size, _, fun target ht => st.trans (by rw [← hU]; exact ht), X3.forget (fun y hy => ?_), heapAt_setCell_self _ hlt, hfound, rfl⟩
  simp only [List.mem_cons, List.not_mem_nil, or_false] at hy
  have hge : s.heap.size ≤ W.heap.size := X.same.2.1
  rcases hy with rfl | rfl | rfl | rfl | rfl <;> exact hge
/-- the words of a machine's NullPointerException, but the four that speak of the heap -/
def vx_atN (n : Nat) : List Cond := (Bundle.npeArmAtoms n).filter vx_no
/-- the words of a machine's throw with a message, but the four that speak of the heap -/
def vx_atM (X : String) (names : List String) : List Cond := (Bundle.messageArmAtoms X names).filter vx_no
section
variable {p : Program} {l : Launch} {e : Env} {R : Room} {s : State} {m : MethodId} {args : Array Value} {below : List Frame} {meth : Method} {c : Code} {H : Heap} {locs : List Loc} {cells slots : Nat}
/-- a frame seen from a rebased start, seen from the first start again -/
theorem vx_back9 {T S : State} {R' : Room} {k n : Nat} (X : Stand p l e R s m args below meth c T locs cells slots) (Y : Stand p l e R' ((T.setVm s.vm).setFrames (.invoking m args :: below)) m args below meth c T [] 0 0) (Z : Stand p l e R' ((T.setVm s.vm).setFrames (.invoking m args :: below)) m args below meth c S [] k n) :
    Stand p l e R s m args below meth c S locs (cells + k) (slots + n) := by
  have hW0 : s.WarmedH ((T.setVm s.vm).setFrames (.invoking m args :: below)).vm := State.WarmedH.refl s
  refine { admits := X.admits, cas := X.cas, clock := X.clock, frames := X.frames, room := X.room, hears := X.hears, method := X.method, code := X.code, here := Z.here, tail := Z.tail, warmed := State.WarmedH.trans hW0 Z.warmed, limits := Z.limits.trans (Y.limits.symm.trans X.limits), bytes := Z.bytes.trans (Y.bytes.symm.trans X.bytes), same := ?_ }
  obtain ⟨e1, e2⟩ := Z.same
  rw [State.setFrames_setFrames] at e1
  have h2 : (T.setVm s.vm).sameButNew (S.setVm s.vm) [] k n := ⟨e1, e2⟩
  have h3 := X.same.trans h2
  rw [List.append_nil] at h3
  exact h3
/-- from the machine's note that E is thrown here with this text -/
def vx_Note (p : Program) (l : Launch) (e : Env) (R : Room) (s : State) (m : MethodId) (args : Array Value) (below : List Frame) (meth : Method) (c : Code) (H : Heap) (locs : List Loc) (cells slots : Nat) (Q : State → Prop) (g : JFrame) (E text : String) : Prop :=
  ∀ T : State, T.heap = H → Stand p l e R s m args below meth c T locs cells slots → ∃ t, Steps p.tables e below ((T.setTop g).pushFrame (.throwNew E (some text) none)) t ∧ Q t
theorem vx_vm {pc : Nat} {ls : Array Slot} {rest : List Value} {Q : State → Prop} (hexec : p.tables.exec = Jvm.exec) (hl : l.stackTraces = false) {cls text : String} {names : List String} {nb : Nat} {A : Nat → Prop}
    (hcls : Bundle.fit cls = true) (hnames : ∀ n ∈ names, Bundle.fit n = true) (hsoe : (cls == "java/lang/StackOverflowError") = false) (hoom : (cls == "java/lang/OutOfMemoryError") = false)
    (hat : ∀ w ∈ vx_atM cls names, w.before args s = true) (hgood : ∀ w ∈ vx_atM cls names, vx_ot w = true)
    (hU : vx_Zq Bundle.tN "UNASSIGNED_STACK" Bundle.steD A s s.heap) (hN : vx_Zq Bundle.tN "SUPPRESSED_SENTINEL" Bundle.listD A s s.heap) (hS : va_S A s.heap H locs) (hsize : ls.size = c.maxLocals)
    (htext : (text == notModelled) = false) (hnb : (stringBytes (stringToUtf16 text)).size ≤ nb) (hnb1 : nb ≤ 1000)
    (hRframes : names.length + 4 < R.frames) (hRlocals : (rest.map fun v => v.category).sum + 10240 ≤ R.locals) (hshort : 13 * names.length + 55 ≤ 10240) (hRcells : cells + 3 ≤ R.cells) (hRslots : slots + (nb + 10) ≤ R.slots) (hlocks : meth.locks = false)
    (k : ∀ (H1 : Heap) (q9 : Addr) (ce : Cell), H.size ≤ H1.size → (∀ q : Nat, q < H.size → H1[q]? = H[q]?) → va_S A s.heap H1 locs → H1[q9]? = some ce → ce.vm = .none → s.vm.findClass cls = some ce.cls → vx_W p l e R s m args below meth c H1 locs (cells + 3) (slots + (nb + 10)) Q (F0 m pc ls rest) q9) :
    vx_Note p l e R s m args below meth c H locs cells slots Q (F0 m pc ls rest) cls text := by
  intro T hT X
  have htr : e.platform.stackTraces = false := (show e.platform.stackTraces = l.stackTraces by rw [X.admits.platform]).trans hl
  have Y := vx_rebase X (R' := { frames := R.frames, locals := R.locals, cells := 3, slots := nb + 10 }) (Nat.le_refl _) (Nat.le_refl _) hRcells hRslots
  have hhp : ((T.setVm s.vm).setFrames (.invoking m args :: below)).heap = H := hT
  have hW0 : s.WarmedH ((T.setVm s.vm).setFrames (.invoking m args :: below)).vm := State.WarmedH.refl s
  have hat' : ∀ w ∈ vx_atM cls names, w.before args ((T.setVm s.vm).setFrames (.invoking m args :: below)) = true := fun w hw => vx_ot_at hW0 rfl (hgood w hw) (hat w hw)
  have hU' : vx_Zq Bundle.tN "UNASSIGNED_STACK" Bundle.steD A ((T.setVm s.vm).setFrames (.invoking m args :: below)) ((T.setVm s.vm).setFrames (.invoking m args :: below)).heap := by rw [hhp]; exact vx_Zq.moved hW0.alike (hU.kept hS.2.1)
  have hN' : vx_Zq Bundle.tN "SUPPRESSED_SENTINEL" Bundle.listD A ((T.setVm s.vm).setFrames (.invoking m args :: below)) ((T.setVm s.vm).setFrames (.invoking m args :: below)).heap := by rw [hhp]; exact vx_Zq.moved hW0.alike (hN.kept hS.2.1)
  obtain ⟨S, q, ce, st, Z, hce, hcl', hv⟩ := vx_vmAt Y hexec htr (cls := cls) (names := names) (text := text) hcls hnames hsoe hoom (vx_own hat' (vx_isRefq hU'.1) (vx_isRefq hN'.1) hU'.2.word hN'.2.word) (fun x hx => nomatch hx) htext
    (by rw [Launch.admits_arrayLengthLimit X.admits]; omega) (by rw [Launch.admits_maxHeapBytes X.admits]; simp only [componentBytes]; omega)
    (g := F0 m pc ls rest) rfl hsize hRframes (by show 2 * 0 + (rest.map fun v => v.category).sum + 10240 ≤ R.locals; omega) hshort (by show 0 + 3 ≤ 3; omega) (by show 0 + (_ + 4 + 6) ≤ nb + 10; omega) hlocks
  obtain ⟨f1, f2⟩ := vx_frame Z.same
  have f1' : H.size ≤ S.heap.size := by rw [← hT]; exact f1
  have f2' : ∀ q : Nat, q < H.size → S.heap[q]? = H[q]? := fun q hq => by
    rw [← hT]
    exact f2 q (by rw [← hT] at hq; exact hq) (fun z hz => nomatch hz)
  have X5 := vx_back9 X Y Z
  have X6 : Stand p l e R s m args below meth c S locs (cells + 3) (slots + (nb + 10)) := { X5 with same := X5.same.mono (by omega) (by omega) }
  obtain ⟨t, a1, b1⟩ := k S.heap q ce f1' f2' ⟨Nat.le_trans hS.1 f1', fun q h1 h2 => (f2' q (Nat.lt_of_lt_of_le h1 hS.1)).trans (hS.2.1 q h1 h2), hS.2.2⟩ hce hv hcl' S rfl X6
  exact ⟨t, st t a1, b1⟩
/-- from the machine's note that NullPointerException is thrown here -/
def vx_NoteN (p : Program) (l : Launch) (e : Env) (R : Room) (s : State) (m : MethodId) (args : Array Value) (below : List Frame) (meth : Method) (c : Code) (H : Heap) (locs : List Loc) (cells slots : Nat) (Q : State → Prop) (g : JFrame) : Prop :=
  ∀ T : State, T.heap = H → Stand p l e R s m args below meth c T locs cells slots → ∃ t, Steps p.tables e below ((T.setTop g).pushFrame (.throwNew "java/lang/NullPointerException" none none)) t ∧ Q t
theorem vx_npe {pc : Nat} {ls : Array Slot} {rest : List Value} {Q : State → Prop} (hexec : p.tables.exec = Jvm.exec) (hl : l.stackTraces = false) {nb : Nat} {A : Nat → Prop}
    (hat : ∀ w ∈ vx_atN nb, w.before args s = true) (hgood : ∀ w ∈ vx_atN nb, vx_ot w = true)
    (hU : vx_Zq Bundle.tN "UNASSIGNED_STACK" Bundle.steD A s s.heap) (hN : vx_Zq Bundle.tN "SUPPRESSED_SENTINEL" Bundle.listD A s s.heap) (hS : va_S A s.heap H locs) (hsize : ls.size = c.maxLocals)
    (hRframes : 7 < R.frames) (hRlocals : (rest.map fun v => v.category).sum + 10240 ≤ R.locals) (hRcells : cells + 1 ≤ R.cells) (hRslots : slots + nb ≤ R.slots) (hlocks : meth.locks = false)
    (k : ∀ (H1 : Heap) (q9 : Addr) (ce : Cell), H.size ≤ H1.size → (∀ q : Nat, q < H.size → H1[q]? = H[q]?) → va_S A s.heap H1 locs → H1[q9]? = some ce → ce.vm = .none → s.vm.findClass "java/lang/NullPointerException" = some ce.cls → vx_W p l e R s m args below meth c H1 locs (cells + 1) (slots + nb) Q (F0 m pc ls rest) q9) :
    vx_NoteN p l e R s m args below meth c H locs cells slots Q (F0 m pc ls rest) := by
  intro T hT X
  have htr : e.platform.stackTraces = false := (show e.platform.stackTraces = l.stackTraces by rw [X.admits.platform]).trans hl
  have Y := vx_rebase X (R' := { frames := R.frames, locals := R.locals, cells := 1, slots := nb }) (Nat.le_refl _) (Nat.le_refl _) hRcells hRslots
  have hhp : ((T.setVm s.vm).setFrames (.invoking m args :: below)).heap = H := hT
  have hW0 : s.WarmedH ((T.setVm s.vm).setFrames (.invoking m args :: below)).vm := State.WarmedH.refl s
  have hat' : ∀ w ∈ vx_atN nb, w.before args ((T.setVm s.vm).setFrames (.invoking m args :: below)) = true := fun w hw => vx_ot_at hW0 rfl (hgood w hw) (hat w hw)
  have hU' : vx_Zq Bundle.tN "UNASSIGNED_STACK" Bundle.steD A ((T.setVm s.vm).setFrames (.invoking m args :: below)) ((T.setVm s.vm).setFrames (.invoking m args :: below)).heap := by rw [hhp]; exact vx_Zq.moved hW0.alike (hU.kept hS.2.1)
  have hN' : vx_Zq Bundle.tN "SUPPRESSED_SENTINEL" Bundle.listD A ((T.setVm s.vm).setFrames (.invoking m args :: below)) ((T.setVm s.vm).setFrames (.invoking m args :: below)).heap := by rw [hhp]; exact vx_Zq.moved hW0.alike (hN.kept hS.2.1)
  obtain ⟨S, q, ce, st, Z, hce, hcl', hv⟩ := vx_npeAt Y hexec htr (n := nb) (vx_own hat' (vx_isRefq hU'.1) (vx_isRefq hN'.1) hU'.2.word hN'.2.word) (fun x hx => nomatch hx)
    (g := F0 m pc ls rest) rfl hsize hRframes (by show 2 * 0 + (rest.map fun v => v.category).sum + 10240 ≤ R.locals; omega) (by show 0 + 1 ≤ 1; omega) (by show 0 + nb ≤ nb; omega) hlocks
  obtain ⟨f1, f2⟩ := vx_frame Z.same
  have f1' : H.size ≤ S.heap.size := by rw [← hT]; exact f1
  have f2' : ∀ q : Nat, q < H.size → S.heap[q]? = H[q]? := fun q hq => by
    rw [← hT]
    exact f2 q (by rw [← hT] at hq; exact hq) (fun z hz => nomatch hz)
  have X5 := vx_back9 X Y Z
  have X6 : Stand p l e R s m args below meth c S locs (cells + 1) (slots + nb) := { X5 with same := X5.same.mono (by omega) (by omega) }
  obtain ⟨t, a1, b1⟩ := k S.heap q ce f1' f2' ⟨Nat.le_trans hS.1 f1', fun q h1 h2 => (f2' q (Nat.lt_of_lt_of_le h1 hS.1)).trans (hS.2.1 q h1 h2), hS.2.2⟩ hce hv hcl' S rfl X6
  exact ⟨t, st t a1, b1⟩
variable {Q : State → Prop} {cc : ByteArray} {pc : Nat} {ls : Array Slot} {rest : List Value}
theorem vx_idivZ (hexec : p.tables.exec = Jvm.exec) (hb : c.code = cc) {a b : Int32} (h0 : b = 0) (d : decode cc pc = .ok (.idiv, 1)) (k : vx_Note p l e R s m args below meth c H locs cells slots Q (F0 m pc ls rest) "java/lang/ArithmeticException" "/ by zero") :
    W p l e R s m args below meth c H locs cells slots Q (F0 m pc ls (.int b :: .int a :: rest)) := by
  intro T hT X
  obtain ⟨t, st, q⟩ := k T hT X
  exact ⟨t, X.idivZero hexec (g := F0 m pc ls (.int b :: .int a :: rest)) rfl (a := a) (rest := rest) (by rw [h0]) (by rw [hb]; exact d) t st, q⟩
theorem vx_iremZ (hexec : p.tables.exec = Jvm.exec) (hb : c.code = cc) {a b : Int32} (h0 : b = 0) (d : decode cc pc = .ok (.irem, 1)) (k : vx_Note p l e R s m args below meth c H locs cells slots Q (F0 m pc ls rest) "java/lang/ArithmeticException" "/ by zero") :
    W p l e R s m args below meth c H locs cells slots Q (F0 m pc ls (.int b :: .int a :: rest)) := by
  intro T hT X
  obtain ⟨t, st, q⟩ := k T hT X
  exact ⟨t, X.iremZero hexec (g := F0 m pc ls (.int b :: .int a :: rest)) rfl (a := a) (rest := rest) (by rw [h0]) (by rw [hb]; exact d) t st, q⟩
theorem vx_ldivZ (hexec : p.tables.exec = Jvm.exec) (hb : c.code = cc) {a b : Int64} (h0 : b = 0) (d : decode cc pc = .ok (.ldiv, 1)) (k : vx_Note p l e R s m args below meth c H locs cells slots Q (F0 m pc ls rest) "java/lang/ArithmeticException" "/ by zero") :
    W p l e R s m args below meth c H locs cells slots Q (F0 m pc ls (.long b :: .long a :: rest)) := by
  intro T hT X
  obtain ⟨t, st, q⟩ := k T hT X
  exact ⟨t, X.ldivZero hexec (g := F0 m pc ls (.long b :: .long a :: rest)) rfl (a := a) (rest := rest) (by rw [h0]) (by rw [hb]; exact d) t st, q⟩
theorem vx_lremZ (hexec : p.tables.exec = Jvm.exec) (hb : c.code = cc) {a b : Int64} (h0 : b = 0) (d : decode cc pc = .ok (.lrem, 1)) (k : vx_Note p l e R s m args below meth c H locs cells slots Q (F0 m pc ls rest) "java/lang/ArithmeticException" "/ by zero") :
    W p l e R s m args below meth c H locs cells slots Q (F0 m pc ls (.long b :: .long a :: rest)) := by
  intro T hT X
  obtain ⟨t, st, q⟩ := k T hT X
  exact ⟨t, X.lremZero hexec (g := F0 m pc ls (.long b :: .long a :: rest)) rfl (a := a) (rest := rest) (by rw [h0]) (by rw [hb]; exact d) t st, q⟩
theorem vx_ialdZ {D : va_G} {cl : List vw_C} {ws : va_W} {tys : List (ClassId × FieldType)} {a : Nat} (hexec : p.tables.exec = Jvm.exec) (hb : c.code = cc) (hK : va_K D cl tys s) (hP : va_P D cl ws H) (q0 t0 : Nat) {cA : ClassId} {n : Nat} {f : Nat → Int32} (ha : ws[q0]? = some (a, .inl (cA, n, .inl f))) (ht : tys[t0]? = some (cA, .int)) {i : Int32} (hout : ¬ vp_in i n) (hdg : decode cc pc = .ok (.iaload, 1))
    (k : ∀ tx : String, tx = (toString "Index " ++ toString i ++ toString " out of bounds for length " ++ toString n : String) → vx_Note p l e R s m args below meth c H locs cells slots Q (F0 m pc ls rest) "java/lang/ArrayIndexOutOfBoundsException" tx) : W p l e R s m args below meth c H locs cells slots Q (F0 m pc ls (.int i :: .ref a :: rest)) := by
  intro T hT X
  obtain ⟨t, st, q⟩ := k _ rfl T hT X
  refine ⟨t, ?_, q⟩
  have h1 := X.ialoadOut hexec (by rw [hT]; exact hP q0 _ ha) ((hK.2 t0 _ ht).1 n (fun j => .int (f j))) (j := i) (by show (i < 0 ∨ (arrV _ _ _).slots.size ≤ _); rw [arrV_size]; exact Classical.byContradiction hout) (g := F0 m pc ls (.int i :: .ref a :: rest)) rfl (rest := rest) rfl (by rw [hb]; exact hdg) t
  simp only [arrV_size] at h1
  exact h1 st
theorem vx_iastZ {D : va_G} {cl : List vw_C} {ws : va_W} {tys : List (ClassId × FieldType)} {a : Nat} (hexec : p.tables.exec = Jvm.exec) (hb : c.code = cc) (hK : va_K D cl tys s) (hP : va_P D cl ws H) (q0 t0 : Nat) {cA : ClassId} {n : Nat} {f : Nat → Int32} (ha : ws[q0]? = some (a, .inl (cA, n, .inl f))) (ht : tys[t0]? = some (cA, .int)) {i : Int32} {x : Int32} (hout : ¬ vp_in i n) (hdg : decode cc pc = .ok (.iastore, 1))
    (k : ∀ tx : String, tx = (toString "Index " ++ toString i ++ toString " out of bounds for length " ++ toString n : String) → vx_Note p l e R s m args below meth c H locs cells slots Q (F0 m pc ls rest) "java/lang/ArrayIndexOutOfBoundsException" tx) : W p l e R s m args below meth c H locs cells slots Q (F0 m pc ls (.int x :: .int i :: .ref a :: rest)) := by
  intro T hT X
  obtain ⟨t, st, q⟩ := k _ rfl T hT X
  refine ⟨t, ?_, q⟩
  have h1 := X.iastoreOut hexec (by rw [hT]; exact hP q0 _ ha) ((hK.2 t0 _ ht).1 n (fun j => .int (f j))) (j := i) (by show (i < 0 ∨ (arrV _ _ _).slots.size ≤ _); rw [arrV_size]; exact Classical.byContradiction hout) (g := F0 m pc ls (.int x :: .int i :: .ref a :: rest)) rfl (rest := rest) rfl (by rw [hb]; exact hdg) t
  simp only [arrV_size] at h1
  exact h1 st
theorem vx_baldZ {D : va_G} {cl : List vw_C} {ws : va_W} {tys : List (ClassId × FieldType)} {a : Nat} (hexec : p.tables.exec = Jvm.exec) (hb : c.code = cc) (hK : va_K D cl tys s) (hP : va_P D cl ws H) (q0 t0 : Nat) {cA : ClassId} {n : Nat} {f : Nat → Int32} (ha : ws[q0]? = some (a, .inl (cA, n, .inl f))) (ht : tys[t0]? = some (cA, .byte)) {i : Int32} (hout : ¬ vp_in i n) (hdg : decode cc pc = .ok (.baload, 1))
    (k : ∀ tx : String, tx = (toString "Index " ++ toString i ++ toString " out of bounds for length " ++ toString n : String) → vx_Note p l e R s m args below meth c H locs cells slots Q (F0 m pc ls rest) "java/lang/ArrayIndexOutOfBoundsException" tx) : W p l e R s m args below meth c H locs cells slots Q (F0 m pc ls (.int i :: .ref a :: rest)) := by
  intro T hT X
  obtain ⟨t, st, q⟩ := k _ rfl T hT X
  refine ⟨t, ?_, q⟩
  have h1 := X.baloadOut hexec (by rw [hT]; exact hP q0 _ ha) ((hK.2 t0 _ ht).1 n (fun j => .int (f j))) (j := i) (by show (i < 0 ∨ (arrV _ _ _).slots.size ≤ _); rw [arrV_size]; exact Classical.byContradiction hout) (g := F0 m pc ls (.int i :: .ref a :: rest)) rfl (rest := rest) rfl (by rw [hb]; exact hdg) t
  simp only [arrV_size] at h1
  exact h1 st
theorem vx_bastZ {D : va_G} {cl : List vw_C} {ws : va_W} {tys : List (ClassId × FieldType)} {a : Nat} (hexec : p.tables.exec = Jvm.exec) (hb : c.code = cc) (hK : va_K D cl tys s) (hP : va_P D cl ws H) (q0 t0 : Nat) {cA : ClassId} {n : Nat} {f : Nat → Int32} (ha : ws[q0]? = some (a, .inl (cA, n, .inl f))) (ht : tys[t0]? = some (cA, .byte)) {i : Int32} {x : Int32} (hout : ¬ vp_in i n) (hdg : decode cc pc = .ok (.bastore, 1))
    (k : ∀ tx : String, tx = (toString "Index " ++ toString i ++ toString " out of bounds for length " ++ toString n : String) → vx_Note p l e R s m args below meth c H locs cells slots Q (F0 m pc ls rest) "java/lang/ArrayIndexOutOfBoundsException" tx) : W p l e R s m args below meth c H locs cells slots Q (F0 m pc ls (.int x :: .int i :: .ref a :: rest)) := by
  intro T hT X
  obtain ⟨t, st, q⟩ := k _ rfl T hT X
  refine ⟨t, ?_, q⟩
  have h1 := X.bastoreOut hexec (by rw [hT]; exact hP q0 _ ha) ((hK.2 t0 _ ht).1 n (fun j => .int (f j))) (j := i) (by show (i < 0 ∨ (arrV _ _ _).slots.size ≤ _); rw [arrV_size]; exact Classical.byContradiction hout) (g := F0 m pc ls (.int x :: .int i :: .ref a :: rest)) rfl (rest := rest) rfl (by rw [hb]; exact hdg) t
  simp only [arrV_size] at h1
  exact h1 st
theorem vx_zaldZ {D : va_G} {cl : List vw_C} {ws : va_W} {tys : List (ClassId × FieldType)} {a : Nat} (hexec : p.tables.exec = Jvm.exec) (hb : c.code = cc) (hK : va_K D cl tys s) (hP : va_P D cl ws H) (q0 t0 : Nat) {cA : ClassId} {n : Nat} {f : Nat → Int32} (ha : ws[q0]? = some (a, .inl (cA, n, .inl f))) (ht : tys[t0]? = some (cA, .boolean)) {i : Int32} (hout : ¬ vp_in i n) (hdg : decode cc pc = .ok (.baload, 1))
    (k : ∀ tx : String, tx = (toString "Index " ++ toString i ++ toString " out of bounds for length " ++ toString n : String) → vx_Note p l e R s m args below meth c H locs cells slots Q (F0 m pc ls rest) "java/lang/ArrayIndexOutOfBoundsException" tx) : W p l e R s m args below meth c H locs cells slots Q (F0 m pc ls (.int i :: .ref a :: rest)) := by
  intro T hT X
  obtain ⟨t, st, q⟩ := k _ rfl T hT X
  refine ⟨t, ?_, q⟩
  have h1 := X.baloadOut hexec (by rw [hT]; exact hP q0 _ ha) ((hK.2 t0 _ ht).1 n (fun j => .int (f j))) (j := i) (by show (i < 0 ∨ (arrV _ _ _).slots.size ≤ _); rw [arrV_size]; exact Classical.byContradiction hout) (g := F0 m pc ls (.int i :: .ref a :: rest)) rfl (rest := rest) rfl (by rw [hb]; exact hdg) t
  simp only [arrV_size] at h1
  exact h1 st
theorem vx_zastZ {D : va_G} {cl : List vw_C} {ws : va_W} {tys : List (ClassId × FieldType)} {a : Nat} (hexec : p.tables.exec = Jvm.exec) (hb : c.code = cc) (hK : va_K D cl tys s) (hP : va_P D cl ws H) (q0 t0 : Nat) {cA : ClassId} {n : Nat} {f : Nat → Int32} (ha : ws[q0]? = some (a, .inl (cA, n, .inl f))) (ht : tys[t0]? = some (cA, .boolean)) {i : Int32} {x : Int32} (hout : ¬ vp_in i n) (hdg : decode cc pc = .ok (.bastore, 1))
    (k : ∀ tx : String, tx = (toString "Index " ++ toString i ++ toString " out of bounds for length " ++ toString n : String) → vx_Note p l e R s m args below meth c H locs cells slots Q (F0 m pc ls rest) "java/lang/ArrayIndexOutOfBoundsException" tx) : W p l e R s m args below meth c H locs cells slots Q (F0 m pc ls (.int x :: .int i :: .ref a :: rest)) := by
  intro T hT X
  obtain ⟨t, st, q⟩ := k _ rfl T hT X
  refine ⟨t, ?_, q⟩
  have h1 := X.bastoreOut hexec (by rw [hT]; exact hP q0 _ ha) ((hK.2 t0 _ ht).1 n (fun j => .int (f j))) (j := i) (by show (i < 0 ∨ (arrV _ _ _).slots.size ≤ _); rw [arrV_size]; exact Classical.byContradiction hout) (g := F0 m pc ls (.int x :: .int i :: .ref a :: rest)) rfl (rest := rest) rfl (by rw [hb]; exact hdg) t
  simp only [arrV_size] at h1
  exact h1 st
theorem vx_caldZ {D : va_G} {cl : List vw_C} {ws : va_W} {tys : List (ClassId × FieldType)} {a : Nat} (hexec : p.tables.exec = Jvm.exec) (hb : c.code = cc) (hK : va_K D cl tys s) (hP : va_P D cl ws H) (q0 t0 : Nat) {cA : ClassId} {n : Nat} {f : Nat → Int32} (ha : ws[q0]? = some (a, .inl (cA, n, .inl f))) (ht : tys[t0]? = some (cA, .char)) {i : Int32} (hout : ¬ vp_in i n) (hdg : decode cc pc = .ok (.caload, 1))
    (k : ∀ tx : String, tx = (toString "Index " ++ toString i ++ toString " out of bounds for length " ++ toString n : String) → vx_Note p l e R s m args below meth c H locs cells slots Q (F0 m pc ls rest) "java/lang/ArrayIndexOutOfBoundsException" tx) : W p l e R s m args below meth c H locs cells slots Q (F0 m pc ls (.int i :: .ref a :: rest)) := by
  intro T hT X
  obtain ⟨t, st, q⟩ := k _ rfl T hT X
  refine ⟨t, ?_, q⟩
  have h1 := X.caloadOut hexec (by rw [hT]; exact hP q0 _ ha) ((hK.2 t0 _ ht).1 n (fun j => .int (f j))) (j := i) (by show (i < 0 ∨ (arrV _ _ _).slots.size ≤ _); rw [arrV_size]; exact Classical.byContradiction hout) (g := F0 m pc ls (.int i :: .ref a :: rest)) rfl (rest := rest) rfl (by rw [hb]; exact hdg) t
  simp only [arrV_size] at h1
  exact h1 st
theorem vx_castZ {D : va_G} {cl : List vw_C} {ws : va_W} {tys : List (ClassId × FieldType)} {a : Nat} (hexec : p.tables.exec = Jvm.exec) (hb : c.code = cc) (hK : va_K D cl tys s) (hP : va_P D cl ws H) (q0 t0 : Nat) {cA : ClassId} {n : Nat} {f : Nat → Int32} (ha : ws[q0]? = some (a, .inl (cA, n, .inl f))) (ht : tys[t0]? = some (cA, .char)) {i : Int32} {x : Int32} (hout : ¬ vp_in i n) (hdg : decode cc pc = .ok (.castore, 1))
    (k : ∀ tx : String, tx = (toString "Index " ++ toString i ++ toString " out of bounds for length " ++ toString n : String) → vx_Note p l e R s m args below meth c H locs cells slots Q (F0 m pc ls rest) "java/lang/ArrayIndexOutOfBoundsException" tx) : W p l e R s m args below meth c H locs cells slots Q (F0 m pc ls (.int x :: .int i :: .ref a :: rest)) := by
  intro T hT X
  obtain ⟨t, st, q⟩ := k _ rfl T hT X
  refine ⟨t, ?_, q⟩
  have h1 := X.castoreOut hexec (by rw [hT]; exact hP q0 _ ha) ((hK.2 t0 _ ht).1 n (fun j => .int (f j))) (j := i) (by show (i < 0 ∨ (arrV _ _ _).slots.size ≤ _); rw [arrV_size]; exact Classical.byContradiction hout) (g := F0 m pc ls (.int x :: .int i :: .ref a :: rest)) rfl (rest := rest) rfl (by rw [hb]; exact hdg) t
  simp only [arrV_size] at h1
  exact h1 st
theorem vx_saldZ {D : va_G} {cl : List vw_C} {ws : va_W} {tys : List (ClassId × FieldType)} {a : Nat} (hexec : p.tables.exec = Jvm.exec) (hb : c.code = cc) (hK : va_K D cl tys s) (hP : va_P D cl ws H) (q0 t0 : Nat) {cA : ClassId} {n : Nat} {f : Nat → Int32} (ha : ws[q0]? = some (a, .inl (cA, n, .inl f))) (ht : tys[t0]? = some (cA, .short)) {i : Int32} (hout : ¬ vp_in i n) (hdg : decode cc pc = .ok (.saload, 1))
    (k : ∀ tx : String, tx = (toString "Index " ++ toString i ++ toString " out of bounds for length " ++ toString n : String) → vx_Note p l e R s m args below meth c H locs cells slots Q (F0 m pc ls rest) "java/lang/ArrayIndexOutOfBoundsException" tx) : W p l e R s m args below meth c H locs cells slots Q (F0 m pc ls (.int i :: .ref a :: rest)) := by
  intro T hT X
  obtain ⟨t, st, q⟩ := k _ rfl T hT X
  refine ⟨t, ?_, q⟩
  have h1 := X.saloadOut hexec (by rw [hT]; exact hP q0 _ ha) ((hK.2 t0 _ ht).1 n (fun j => .int (f j))) (j := i) (by show (i < 0 ∨ (arrV _ _ _).slots.size ≤ _); rw [arrV_size]; exact Classical.byContradiction hout) (g := F0 m pc ls (.int i :: .ref a :: rest)) rfl (rest := rest) rfl (by rw [hb]; exact hdg) t
  simp only [arrV_size] at h1
  exact h1 st
theorem vx_sastZ {D : va_G} {cl : List vw_C} {ws : va_W} {tys : List (ClassId × FieldType)} {a : Nat} (hexec : p.tables.exec = Jvm.exec) (hb : c.code = cc) (hK : va_K D cl tys s) (hP : va_P D cl ws H) (q0 t0 : Nat) {cA : ClassId} {n : Nat} {f : Nat → Int32} (ha : ws[q0]? = some (a, .inl (cA, n, .inl f))) (ht : tys[t0]? = some (cA, .short)) {i : Int32} {x : Int32} (hout : ¬ vp_in i n) (hdg : decode cc pc = .ok (.sastore, 1))
    (k : ∀ tx : String, tx = (toString "Index " ++ toString i ++ toString " out of bounds for length " ++ toString n : String) → vx_Note p l e R s m args below meth c H locs cells slots Q (F0 m pc ls rest) "java/lang/ArrayIndexOutOfBoundsException" tx) : W p l e R s m args below meth c H locs cells slots Q (F0 m pc ls (.int x :: .int i :: .ref a :: rest)) := by
  intro T hT X
  obtain ⟨t, st, q⟩ := k _ rfl T hT X
  refine ⟨t, ?_, q⟩
  have h1 := X.sastoreOut hexec (by rw [hT]; exact hP q0 _ ha) ((hK.2 t0 _ ht).1 n (fun j => .int (f j))) (j := i) (by show (i < 0 ∨ (arrV _ _ _).slots.size ≤ _); rw [arrV_size]; exact Classical.byContradiction hout) (g := F0 m pc ls (.int x :: .int i :: .ref a :: rest)) rfl (rest := rest) rfl (by rw [hb]; exact hdg) t
  simp only [arrV_size] at h1
  exact h1 st
theorem vx_laldZ {D : va_G} {cl : List vw_C} {ws : va_W} {tys : List (ClassId × FieldType)} {a : Nat} (hexec : p.tables.exec = Jvm.exec) (hb : c.code = cc) (hK : va_K D cl tys s) (hP : va_P D cl ws H) (q0 t0 : Nat) {cA : ClassId} {n : Nat} {f : Nat → Int64} (ha : ws[q0]? = some (a, .inl (cA, n, .inr (.inl f)))) (ht : tys[t0]? = some (cA, .long)) {i : Int32} (hout : ¬ vp_in i n) (hdg : decode cc pc = .ok (.laload, 1))
    (k : ∀ tx : String, tx = (toString "Index " ++ toString i ++ toString " out of bounds for length " ++ toString n : String) → vx_Note p l e R s m args below meth c H locs cells slots Q (F0 m pc ls rest) "java/lang/ArrayIndexOutOfBoundsException" tx) : W p l e R s m args below meth c H locs cells slots Q (F0 m pc ls (.int i :: .ref a :: rest)) := by
  intro T hT X
  obtain ⟨t, st, q⟩ := k _ rfl T hT X
  refine ⟨t, ?_, q⟩
  have h1 := X.laloadOut hexec (by rw [hT]; exact hP q0 _ ha) ((hK.2 t0 _ ht).1 n (fun j => .long (f j))) (j := i) (by show (i < 0 ∨ (arrV _ _ _).slots.size ≤ _); rw [arrV_size]; exact Classical.byContradiction hout) (g := F0 m pc ls (.int i :: .ref a :: rest)) rfl (rest := rest) rfl (by rw [hb]; exact hdg) t
  simp only [arrV_size] at h1
  exact h1 st
theorem vx_lastZ {D : va_G} {cl : List vw_C} {ws : va_W} {tys : List (ClassId × FieldType)} {a : Nat} (hexec : p.tables.exec = Jvm.exec) (hb : c.code = cc) (hK : va_K D cl tys s) (hP : va_P D cl ws H) (q0 t0 : Nat) {cA : ClassId} {n : Nat} {f : Nat → Int64} (ha : ws[q0]? = some (a, .inl (cA, n, .inr (.inl f)))) (ht : tys[t0]? = some (cA, .long)) {i : Int32} {x : Int64} (hout : ¬ vp_in i n) (hdg : decode cc pc = .ok (.lastore, 1))
    (k : ∀ tx : String, tx = (toString "Index " ++ toString i ++ toString " out of bounds for length " ++ toString n : String) → vx_Note p l e R s m args below meth c H locs cells slots Q (F0 m pc ls rest) "java/lang/ArrayIndexOutOfBoundsException" tx) : W p l e R s m args below meth c H locs cells slots Q (F0 m pc ls (.long x :: .int i :: .ref a :: rest)) := by
  intro T hT X
  obtain ⟨t, st, q⟩ := k _ rfl T hT X
  refine ⟨t, ?_, q⟩
  have h1 := X.lastoreOut hexec (by rw [hT]; exact hP q0 _ ha) ((hK.2 t0 _ ht).1 n (fun j => .long (f j))) (j := i) (by show (i < 0 ∨ (arrV _ _ _).slots.size ≤ _); rw [arrV_size]; exact Classical.byContradiction hout) (g := F0 m pc ls (.long x :: .int i :: .ref a :: rest)) rfl (rest := rest) rfl (by rw [hb]; exact hdg) t
  simp only [arrV_size] at h1
  exact h1 st
theorem vx_faldZ {D : va_G} {cl : List vw_C} {ws : va_W} {tys : List (ClassId × FieldType)} {a : Nat} (hexec : p.tables.exec = Jvm.exec) (hb : c.code = cc) (hK : va_K D cl tys s) (hP : va_P D cl ws H) (q0 t0 : Nat) {cA : ClassId} {n : Nat} {f : Nat → UInt32} (ha : ws[q0]? = some (a, .inl (cA, n, .inr (.inr (.inl f))))) (ht : tys[t0]? = some (cA, .float)) {i : Int32} (hout : ¬ vp_in i n) (hdg : decode cc pc = .ok (.faload, 1))
    (k : ∀ tx : String, tx = (toString "Index " ++ toString i ++ toString " out of bounds for length " ++ toString n : String) → vx_Note p l e R s m args below meth c H locs cells slots Q (F0 m pc ls rest) "java/lang/ArrayIndexOutOfBoundsException" tx) : W p l e R s m args below meth c H locs cells slots Q (F0 m pc ls (.int i :: .ref a :: rest)) := by
  intro T hT X
  obtain ⟨t, st, q⟩ := k _ rfl T hT X
  refine ⟨t, ?_, q⟩
  have h1 := X.faloadOut hexec (by rw [hT]; exact hP q0 _ ha) ((hK.2 t0 _ ht).1 n (fun j => .float (f j))) (j := i) (by show (i < 0 ∨ (arrV _ _ _).slots.size ≤ _); rw [arrV_size]; exact Classical.byContradiction hout) (g := F0 m pc ls (.int i :: .ref a :: rest)) rfl (rest := rest) rfl (by rw [hb]; exact hdg) t
  simp only [arrV_size] at h1
  exact h1 st
theorem vx_fastZ {D : va_G} {cl : List vw_C} {ws : va_W} {tys : List (ClassId × FieldType)} {a : Nat} (hexec : p.tables.exec = Jvm.exec) (hb : c.code = cc) (hK : va_K D cl tys s) (hP : va_P D cl ws H) (q0 t0 : Nat) {cA : ClassId} {n : Nat} {f : Nat → UInt32} (ha : ws[q0]? = some (a, .inl (cA, n, .inr (.inr (.inl f))))) (ht : tys[t0]? = some (cA, .float)) {i : Int32} {x : UInt32} (hout : ¬ vp_in i n) (hdg : decode cc pc = .ok (.fastore, 1))
    (k : ∀ tx : String, tx = (toString "Index " ++ toString i ++ toString " out of bounds for length " ++ toString n : String) → vx_Note p l e R s m args below meth c H locs cells slots Q (F0 m pc ls rest) "java/lang/ArrayIndexOutOfBoundsException" tx) : W p l e R s m args below meth c H locs cells slots Q (F0 m pc ls (.float x :: .int i :: .ref a :: rest)) := by
  intro T hT X
  obtain ⟨t, st, q⟩ := k _ rfl T hT X
  refine ⟨t, ?_, q⟩
  have h1 := X.fastoreOut hexec (by rw [hT]; exact hP q0 _ ha) ((hK.2 t0 _ ht).1 n (fun j => .float (f j))) (j := i) (by show (i < 0 ∨ (arrV _ _ _).slots.size ≤ _); rw [arrV_size]; exact Classical.byContradiction hout) (g := F0 m pc ls (.float x :: .int i :: .ref a :: rest)) rfl (rest := rest) rfl (by rw [hb]; exact hdg) t
  simp only [arrV_size] at h1
  exact h1 st
theorem vx_daldZ {D : va_G} {cl : List vw_C} {ws : va_W} {tys : List (ClassId × FieldType)} {a : Nat} (hexec : p.tables.exec = Jvm.exec) (hb : c.code = cc) (hK : va_K D cl tys s) (hP : va_P D cl ws H) (q0 t0 : Nat) {cA : ClassId} {n : Nat} {f : Nat → UInt64} (ha : ws[q0]? = some (a, .inl (cA, n, .inr (.inr (.inr (.inl f)))))) (ht : tys[t0]? = some (cA, .double)) {i : Int32} (hout : ¬ vp_in i n) (hdg : decode cc pc = .ok (.daload, 1))
    (k : ∀ tx : String, tx = (toString "Index " ++ toString i ++ toString " out of bounds for length " ++ toString n : String) → vx_Note p l e R s m args below meth c H locs cells slots Q (F0 m pc ls rest) "java/lang/ArrayIndexOutOfBoundsException" tx) : W p l e R s m args below meth c H locs cells slots Q (F0 m pc ls (.int i :: .ref a :: rest)) := by
  intro T hT X
  obtain ⟨t, st, q⟩ := k _ rfl T hT X
  refine ⟨t, ?_, q⟩
  have h1 := X.daloadOut hexec (by rw [hT]; exact hP q0 _ ha) ((hK.2 t0 _ ht).1 n (fun j => .double (f j))) (j := i) (by show (i < 0 ∨ (arrV _ _ _).slots.size ≤ _); rw [arrV_size]; exact Classical.byContradiction hout) (g := F0 m pc ls (.int i :: .ref a :: rest)) rfl (rest := rest) rfl (by rw [hb]; exact hdg) t
  simp only [arrV_size] at h1
  exact h1 st
theorem vx_dastZ {D : va_G} {cl : List vw_C} {ws : va_W} {tys : List (ClassId × FieldType)} {a : Nat} (hexec : p.tables.exec = Jvm.exec) (hb : c.code = cc) (hK : va_K D cl tys s) (hP : va_P D cl ws H) (q0 t0 : Nat) {cA : ClassId} {n : Nat} {f : Nat → UInt64} (ha : ws[q0]? = some (a, .inl (cA, n, .inr (.inr (.inr (.inl f)))))) (ht : tys[t0]? = some (cA, .double)) {i : Int32} {x : UInt64} (hout : ¬ vp_in i n) (hdg : decode cc pc = .ok (.dastore, 1))
    (k : ∀ tx : String, tx = (toString "Index " ++ toString i ++ toString " out of bounds for length " ++ toString n : String) → vx_Note p l e R s m args below meth c H locs cells slots Q (F0 m pc ls rest) "java/lang/ArrayIndexOutOfBoundsException" tx) : W p l e R s m args below meth c H locs cells slots Q (F0 m pc ls (.double x :: .int i :: .ref a :: rest)) := by
  intro T hT X
  obtain ⟨t, st, q⟩ := k _ rfl T hT X
  refine ⟨t, ?_, q⟩
  have h1 := X.dastoreOut hexec (by rw [hT]; exact hP q0 _ ha) ((hK.2 t0 _ ht).1 n (fun j => .double (f j))) (j := i) (by show (i < 0 ∨ (arrV _ _ _).slots.size ≤ _); rw [arrV_size]; exact Classical.byContradiction hout) (g := F0 m pc ls (.double x :: .int i :: .ref a :: rest)) rfl (rest := rest) rfl (by rw [hb]; exact hdg) t
  simp only [arrV_size] at h1
  exact h1 st
theorem vx_arraylengthN (hexec : p.tables.exec = Jvm.exec) (hb : c.code = cc) (hdg : decode cc pc = .ok (.arraylength, 1)) (k : vx_NoteN p l e R s m args below meth c H locs cells slots Q (F0 m pc ls rest)) : W p l e R s m args below meth c H locs cells slots Q (F0 m pc ls (.null :: rest)) := by
  intro T hT X
  obtain ⟨t, st, q⟩ := k T hT X
  exact ⟨t, X.arraylengthNull hexec (g := F0 m pc ls (.null :: rest)) rfl (rest := rest) rfl (by rw [hb]; exact hdg) t st, q⟩
theorem vx_ialoadN (hexec : p.tables.exec = Jvm.exec) (hb : c.code = cc) {i : Int32} (hdg : decode cc pc = .ok (.iaload, 1)) (k : vx_NoteN p l e R s m args below meth c H locs cells slots Q (F0 m pc ls rest)) : W p l e R s m args below meth c H locs cells slots Q (F0 m pc ls (.int i :: .null :: rest)) := by
  intro T hT X
  obtain ⟨t, st, q⟩ := k T hT X
  exact ⟨t, X.ialoadNull hexec (g := F0 m pc ls (.int i :: .null :: rest)) rfl (rest := rest) rfl (by rw [hb]; exact hdg) t st, q⟩
theorem vx_laloadN (hexec : p.tables.exec = Jvm.exec) (hb : c.code = cc) {i : Int32} (hdg : decode cc pc = .ok (.laload, 1)) (k : vx_NoteN p l e R s m args below meth c H locs cells slots Q (F0 m pc ls rest)) : W p l e R s m args below meth c H locs cells slots Q (F0 m pc ls (.int i :: .null :: rest)) := by
  intro T hT X
  obtain ⟨t, st, q⟩ := k T hT X
  exact ⟨t, X.laloadNull hexec (g := F0 m pc ls (.int i :: .null :: rest)) rfl (rest := rest) rfl (by rw [hb]; exact hdg) t st, q⟩
theorem vx_faloadN (hexec : p.tables.exec = Jvm.exec) (hb : c.code = cc) {i : Int32} (hdg : decode cc pc = .ok (.faload, 1)) (k : vx_NoteN p l e R s m args below meth c H locs cells slots Q (F0 m pc ls rest)) : W p l e R s m args below meth c H locs cells slots Q (F0 m pc ls (.int i :: .null :: rest)) := by
  intro T hT X
  obtain ⟨t, st, q⟩ := k T hT X
  exact ⟨t, X.faloadNull hexec (g := F0 m pc ls (.int i :: .null :: rest)) rfl (rest := rest) rfl (by rw [hb]; exact hdg) t st, q⟩
theorem vx_daloadN (hexec : p.tables.exec = Jvm.exec) (hb : c.code = cc) {i : Int32} (hdg : decode cc pc = .ok (.daload, 1)) (k : vx_NoteN p l e R s m args below meth c H locs cells slots Q (F0 m pc ls rest)) : W p l e R s m args below meth c H locs cells slots Q (F0 m pc ls (.int i :: .null :: rest)) := by
  intro T hT X
  obtain ⟨t, st, q⟩ := k T hT X
  exact ⟨t, X.daloadNull hexec (g := F0 m pc ls (.int i :: .null :: rest)) rfl (rest := rest) rfl (by rw [hb]; exact hdg) t st, q⟩
theorem vx_aaloadN (hexec : p.tables.exec = Jvm.exec) (hb : c.code = cc) {i : Int32} (hdg : decode cc pc = .ok (.aaload, 1)) (k : vx_NoteN p l e R s m args below meth c H locs cells slots Q (F0 m pc ls rest)) : W p l e R s m args below meth c H locs cells slots Q (F0 m pc ls (.int i :: .null :: rest)) := by
  intro T hT X
  obtain ⟨t, st, q⟩ := k T hT X
  exact ⟨t, X.aaloadNull hexec (g := F0 m pc ls (.int i :: .null :: rest)) rfl (rest := rest) rfl (by rw [hb]; exact hdg) t st, q⟩
theorem vx_baloadN (hexec : p.tables.exec = Jvm.exec) (hb : c.code = cc) {i : Int32} (hdg : decode cc pc = .ok (.baload, 1)) (k : vx_NoteN p l e R s m args below meth c H locs cells slots Q (F0 m pc ls rest)) : W p l e R s m args below meth c H locs cells slots Q (F0 m pc ls (.int i :: .null :: rest)) := by
  intro T hT X
  obtain ⟨t, st, q⟩ := k T hT X
  exact ⟨t, X.baloadNull hexec (g := F0 m pc ls (.int i :: .null :: rest)) rfl (rest := rest) rfl (by rw [hb]; exact hdg) t st, q⟩
theorem vx_caloadN (hexec : p.tables.exec = Jvm.exec) (hb : c.code = cc) {i : Int32} (hdg : decode cc pc = .ok (.caload, 1)) (k : vx_NoteN p l e R s m args below meth c H locs cells slots Q (F0 m pc ls rest)) : W p l e R s m args below meth c H locs cells slots Q (F0 m pc ls (.int i :: .null :: rest)) := by
  intro T hT X
  obtain ⟨t, st, q⟩ := k T hT X
  exact ⟨t, X.caloadNull hexec (g := F0 m pc ls (.int i :: .null :: rest)) rfl (rest := rest) rfl (by rw [hb]; exact hdg) t st, q⟩
theorem vx_saloadN (hexec : p.tables.exec = Jvm.exec) (hb : c.code = cc) {i : Int32} (hdg : decode cc pc = .ok (.saload, 1)) (k : vx_NoteN p l e R s m args below meth c H locs cells slots Q (F0 m pc ls rest)) : W p l e R s m args below meth c H locs cells slots Q (F0 m pc ls (.int i :: .null :: rest)) := by
  intro T hT X
  obtain ⟨t, st, q⟩ := k T hT X
  exact ⟨t, X.saloadNull hexec (g := F0 m pc ls (.int i :: .null :: rest)) rfl (rest := rest) rfl (by rw [hb]; exact hdg) t st, q⟩
theorem vx_iastoreN (hexec : p.tables.exec = Jvm.exec) (hb : c.code = cc) {x : Int32} {i : Int32} (hdg : decode cc pc = .ok (.iastore, 1)) (k : vx_NoteN p l e R s m args below meth c H locs cells slots Q (F0 m pc ls rest)) : W p l e R s m args below meth c H locs cells slots Q (F0 m pc ls (.int x :: .int i :: .null :: rest)) := by
  intro T hT X
  obtain ⟨t, st, q⟩ := k T hT X
  exact ⟨t, X.iastoreNull hexec (g := F0 m pc ls (.int x :: .int i :: .null :: rest)) rfl (rest := rest) rfl (by rw [hb]; exact hdg) t st, q⟩
theorem vx_lastoreN (hexec : p.tables.exec = Jvm.exec) (hb : c.code = cc) {x : Int64} {i : Int32} (hdg : decode cc pc = .ok (.lastore, 1)) (k : vx_NoteN p l e R s m args below meth c H locs cells slots Q (F0 m pc ls rest)) : W p l e R s m args below meth c H locs cells slots Q (F0 m pc ls (.long x :: .int i :: .null :: rest)) := by
  intro T hT X
  obtain ⟨t, st, q⟩ := k T hT X
  exact ⟨t, X.lastoreNull hexec (g := F0 m pc ls (.long x :: .int i :: .null :: rest)) rfl (rest := rest) rfl (by rw [hb]; exact hdg) t st, q⟩
theorem vx_fastoreN (hexec : p.tables.exec = Jvm.exec) (hb : c.code = cc) {x : UInt32} {i : Int32} (hdg : decode cc pc = .ok (.fastore, 1)) (k : vx_NoteN p l e R s m args below meth c H locs cells slots Q (F0 m pc ls rest)) : W p l e R s m args below meth c H locs cells slots Q (F0 m pc ls (.float x :: .int i :: .null :: rest)) := by
  intro T hT X
  obtain ⟨t, st, q⟩ := k T hT X
  exact ⟨t, X.fastoreNull hexec (g := F0 m pc ls (.float x :: .int i :: .null :: rest)) rfl (rest := rest) rfl (by rw [hb]; exact hdg) t st, q⟩
theorem vx_dastoreN (hexec : p.tables.exec = Jvm.exec) (hb : c.code = cc) {x : UInt64} {i : Int32} (hdg : decode cc pc = .ok (.dastore, 1)) (k : vx_NoteN p l e R s m args below meth c H locs cells slots Q (F0 m pc ls rest)) : W p l e R s m args below meth c H locs cells slots Q (F0 m pc ls (.double x :: .int i :: .null :: rest)) := by
  intro T hT X
  obtain ⟨t, st, q⟩ := k T hT X
  exact ⟨t, X.dastoreNull hexec (g := F0 m pc ls (.double x :: .int i :: .null :: rest)) rfl (rest := rest) rfl (by rw [hb]; exact hdg) t st, q⟩
theorem vx_bastoreN (hexec : p.tables.exec = Jvm.exec) (hb : c.code = cc) {x : Int32} {i : Int32} (hdg : decode cc pc = .ok (.bastore, 1)) (k : vx_NoteN p l e R s m args below meth c H locs cells slots Q (F0 m pc ls rest)) : W p l e R s m args below meth c H locs cells slots Q (F0 m pc ls (.int x :: .int i :: .null :: rest)) := by
  intro T hT X
  obtain ⟨t, st, q⟩ := k T hT X
  exact ⟨t, X.bastoreNull hexec (g := F0 m pc ls (.int x :: .int i :: .null :: rest)) rfl (rest := rest) rfl (by rw [hb]; exact hdg) t st, q⟩
theorem vx_castoreN (hexec : p.tables.exec = Jvm.exec) (hb : c.code = cc) {x : Int32} {i : Int32} (hdg : decode cc pc = .ok (.castore, 1)) (k : vx_NoteN p l e R s m args below meth c H locs cells slots Q (F0 m pc ls rest)) : W p l e R s m args below meth c H locs cells slots Q (F0 m pc ls (.int x :: .int i :: .null :: rest)) := by
  intro T hT X
  obtain ⟨t, st, q⟩ := k T hT X
  exact ⟨t, X.castoreNull hexec (g := F0 m pc ls (.int x :: .int i :: .null :: rest)) rfl (rest := rest) rfl (by rw [hb]; exact hdg) t st, q⟩
theorem vx_sastoreN (hexec : p.tables.exec = Jvm.exec) (hb : c.code = cc) {x : Int32} {i : Int32} (hdg : decode cc pc = .ok (.sastore, 1)) (k : vx_NoteN p l e R s m args below meth c H locs cells slots Q (F0 m pc ls rest)) : W p l e R s m args below meth c H locs cells slots Q (F0 m pc ls (.int x :: .int i :: .null :: rest)) := by
  intro T hT X
  obtain ⟨t, st, q⟩ := k T hT X
  exact ⟨t, X.sastoreNull hexec (g := F0 m pc ls (.int x :: .int i :: .null :: rest)) rfl (rest := rest) rfl (by rw [hb]; exact hdg) t st, q⟩
theorem vx_invokeN {own C : String} {index maxL : Nat} {y : MethodName} {bytes : ByteArray} {ret : Option FieldType} (hexec : p.tables.exec = Jvm.exec) (hb : c.code = cc) (hown : s.vm.findClass own = some m.cls) (hlink : (Cond.methodLink own index y).before args s = true) (hinst : (Cond.instanceMethod y).before args s = true) (hcode : (Cond.code y bytes maxL ret).before args s = true) (hsel : (Cond.selects C y y).before args s = true)
    (hx : y.cls ≠ "java/lang/invoke/MethodHandle" ∧ y.cls ≠ "java/lang/invoke/VarHandle") {As : List Value} (hlen : (parseMethodDescriptor y.desc).map (fun d => d.parameters.length) = some As.length) (hdg : decode cc pc = .ok (.invokevirtual index, 3))
    (k : vx_NoteN p l e R s m args below meth c H locs cells slots Q (F0 m pc ls rest)) {st0 : List Value} (hst : st0 = As.reverse ++ .null :: rest) : W p l e R s m args below meth c H locs cells slots Q (F0 m pc ls st0) := by
  intro T hT X
  obtain ⟨r0, r, hn, hrm, hstR, hsigR⟩ := va_Decl.of hinst hcode
  obtain ⟨c2, r2, m2, q1, q2, q3, q4, kP, hkP, hkPi⟩ := Cond.selects_spec hsel
  cases hn.symm.trans q3
  have hl9 : As.length = r.sig.parameters.length := by
    rw [hsigR] at hlen
    exact (Option.some.inj hlen).symm
  obtain ⟨vm', X1, st1⟩ := X.invokevirtualNull hexec hown hlink hn hrm hstR hkP hkPi hx (g := F0 m pc ls st0) rfl (argsL := As) (rest := rest) hl9 hst (by rw [hb]; exact hdg)
  obtain ⟨t, st, q⟩ := k (T.setVm vm') hT X1
  exact ⟨t, st1 t st, q⟩
theorem vx_newarrayZ {atype : ArrayType} (hexec : p.tables.exec = Jvm.exec) (hb : c.code = cc) {n : Int32} (h0 : n < 0) (hdg : decode cc pc = .ok (.newarray atype, 2)) (k : ∀ tx : String, tx = toString n → vx_Note p l e R s m args below meth c H locs cells slots Q (F0 m pc ls rest) "java/lang/NegativeArraySizeException" tx) : W p l e R s m args below meth c H locs cells slots Q (F0 m pc ls (.int n :: rest)) := by
  intro T hT X
  obtain ⟨t, st, q⟩ := k _ rfl T hT X
  exact ⟨t, X.newarrayNegative hexec (g := F0 m pc ls (.int n :: rest)) rfl h0 (rest := rest) rfl (by rw [hb]; exact hdg) t st, q⟩
end
end VXM
/-! ===== END ===== -/
end
section
/-! ===== BEGIN printed: names, fields, word lists, decode rows ===== -/
def RX0 : String := "Tenonyard$Cutting"
def TX0 : u_T := fun k => match k with
  | 0 => ("Tenonyard$Cutting", "count", "I", false)
  | 1 => ("Tenonyard$Cutting", "isFound", "Z", false)
  | 2 => ("Tenonyard$Cutting", "canCut", "Z", false)
  | 3 => ("Tenonyard$Cutting", "usedLength", "I", false)
  | 4 => ("Tenonyard$Cutting", "chosen", "[I", true)
  | 5 => ("Tenonyard$Cutting", "lengths", "[I", true)
  | 6 => ("Tenonyard$Cutting", "breadths", "[I", true)
  | 7 => ("Tenonyard$Cutting", "grades", "[I", true)
  | 8 => ("Tenonyard$Cutting", "spans", "[I", true)
  | 9 => ("Tenonyard$Cutting", "weights", "[I", true)
  | _ => ("Tenonyard$Cutting", "costs", "[J", true)
def tyX0 : Nat → FieldType := fun k => match k with
  | 0 => .int
  | 1 => .boolean
  | 2 => .boolean
  | 3 => .int
  | 4 => .array .int
  | 5 => .array .int
  | 6 => .array .int
  | 7 => .array .int
  | 8 => .array .int
  | 9 => .array .int
  | _ => .array .long
abbrev wsX00 : List Cond := u_ws RX0 TX0 11
theorem nmX0 : ∀ a, a < 11 → ∀ b, b < 11 → a ≠ b → (TX0 a).2.1 ≠ (TX0 b).2.1 := by decide +kernel
theorem tyX0_ok : ∀ k, k < 11 → parseFieldDescriptor (TX0 k).2.2.1 = some (tyX0 k) := by decide +kernel
abbrev cX0_init : ByteArray := prog_2_method_1_code
def yX0_init : MethodName := ⟨RX0, "<init>", "()V"⟩
abbrev cX0_add : ByteArray := prog_2_method_2_code
def yX0_add : MethodName := ⟨RX0, "add", "(III)I"⟩
abbrev cX0_pieceLength : ByteArray := prog_2_method_3_code
def yX0_pieceLength : MethodName := ⟨RX0, "pieceLength", "(ILTenonyard$Frame;LTenonyard$Joinery;)I"⟩
abbrev cX0_find : ByteArray := prog_2_method_4_code
def yX0_find : MethodName := ⟨RX0, "find", "(LTenonyard$Frame;LTenonyard$Joinery;)V"⟩
abbrev cX0_measure : ByteArray := prog_2_method_5_code
def yX0_measure : MethodName := ⟨RX0, "measure", "(LTenonyard$Frame;LTenonyard$Joinery;)V"⟩
abbrev cX0_fitting : ByteArray := prog_2_method_6_code
def yX0_fitting : MethodName := ⟨RX0, "fitting", "(ILTenonyard$Frame;)I"⟩
abbrev cX0_offer : ByteArray := prog_2_method_7_code
def yX0_offer : MethodName := ⟨RX0, "offer", "(III)V"⟩
abbrev cX0_choose : ByteArray := prog_2_method_8_code
def yX0_choose : MethodName := ⟨RX0, "choose", "(J)V"⟩
abbrev cX0_leftOf : ByteArray := prog_2_method_9_code
def yX0_leftOf : MethodName := ⟨RX0, "leftOf", "(II)I"⟩
def RX1 : String := "Tenonyard$Forces"
def TX1 : u_T := fun k => match k with
  | 0 => ("Tenonyard$Forces", "isFound", "Z", false)
  | 1 => ("Tenonyard$Forces", "outcome", "C", false)
  | 2 => ("Tenonyard$Forces", "divisor", "J", false)
  | 3 => ("Tenonyard$Forces", "wholes", "[J", true)
  | 4 => ("Tenonyard$Forces", "rests", "[J", true)
  | 5 => ("Tenonyard$Forces", "amounts", "[J", true)
  | 6 => ("Tenonyard$Forces", "ways", "[I", true)
  | 7 => ("Tenonyard$Forces", "highAsked", "[I", true)
  | 8 => ("Tenonyard$Forces", "lowAsked", "[I", true)
  | 9 => ("Tenonyard$Forces", "plain", "[J", true)
  | 10 => ("Tenonyard$Forces", "high", "[J", true)
  | 11 => ("Tenonyard$Forces", "low", "[J", true)
  | 12 => ("Tenonyard$Forces", "factor", "LTenonyard$Wide;", true)
  | 13 => ("Tenonyard$Forces", "wideDivisor", "LTenonyard$Wide;", true)
  | 14 => ("Tenonyard$Forces", "product", "LTenonyard$Wide;", true)
  | 15 => ("Tenonyard$Forces", "square", "LTenonyard$Wide;", true)
  | _ => ("Tenonyard$Forces", "greatestSquare", "LTenonyard$Wide;", true)
def tyX1 : Nat → FieldType := fun k => match k with
  | 0 => .boolean
  | 1 => .char
  | 2 => .long
  | 3 => .array .long
  | 4 => .array .long
  | 5 => .array .long
  | 6 => .array .int
  | 7 => .array .int
  | 8 => .array .int
  | 9 => .array .long
  | 10 => .array .long
  | 11 => .array .long
  | 12 => .object "Tenonyard$Wide"
  | 13 => .object "Tenonyard$Wide"
  | 14 => .object "Tenonyard$Wide"
  | 15 => .object "Tenonyard$Wide"
  | _ => .object "Tenonyard$Wide"
abbrev wsX10 : List Cond := u_ws RX1 TX1 17
theorem nmX1 : ∀ a, a < 17 → ∀ b, b < 17 → a ≠ b → (TX1 a).2.1 ≠ (TX1 b).2.1 := by decide +kernel
theorem tyX1_ok : ∀ k, k < 17 → parseFieldDescriptor (TX1 k).2.2.1 = some (tyX1 k) := by decide +kernel
abbrev cX1_init : ByteArray := prog_3_method_1_code
def yX1_init : MethodName := ⟨RX1, "<init>", "()V"⟩
abbrev cX1_bearingIndex : ByteArray := prog_3_method_2_code
def yX1_bearingIndex : MethodName := ⟨RX1, "bearingIndex", "(II)I"⟩
abbrev cX1_find : ByteArray := prog_3_method_3_code
def yX1_find : MethodName := ⟨RX1, "find", "(LTenonyard$Frame;)V"⟩
abbrev cX1_findPulls : ByteArray := prog_3_method_4_code
def yX1_findPulls : MethodName := ⟨RX1, "findPulls", "(LTenonyard$Frame;)C"⟩
abbrev cX1_fillRows : ByteArray := prog_3_method_5_code
def yX1_fillRows : MethodName := ⟨RX1, "fillRows", "(LTenonyard$Frame;)V"⟩
abbrev cX1_findDeterminants : ByteArray := prog_3_method_6_code
def yX1_findDeterminants : MethodName := ⟨RX1, "findDeterminants", "(I)V"⟩
abbrev cX1_expanded : ByteArray := prog_3_method_7_code
def yX1_expanded : MethodName := ⟨RX1, "expanded", "([JII)J"⟩
abbrev cX1_setPull : ByteArray := prog_3_method_8_code
def yX1_setPull : MethodName := ⟨RX1, "setPull", "(III)V"⟩
abbrev cX1_carry : ByteArray := prog_3_method_9_code
def yX1_carry : MethodName := ⟨RX1, "carry", "(I)V"⟩
abbrev cX1_findBearings : ByteArray := prog_3_method_10_code
def yX1_findBearings : MethodName := ⟨RX1, "findBearings", "(LTenonyard$Frame;)V"⟩
abbrev cX1_findAmounts : ByteArray := prog_3_method_11_code
def yX1_findAmounts : MethodName := ⟨RX1, "findAmounts", "(LTenonyard$Frame;)V"⟩
abbrev cX1_timesLength : ByteArray := prog_3_method_12_code
def yX1_timesLength : MethodName := ⟨RX1, "timesLength", "(JJI)J"⟩
abbrev cX1_thousandths : ByteArray := prog_3_method_13_code
def yX1_thousandths : MethodName := ⟨RX1, "thousandths", "(I)J"⟩
abbrev cX1_restInThousandths : ByteArray := prog_3_method_14_code
def yX1_restInThousandths : MethodName := ⟨RX1, "restInThousandths", "(I)J"⟩
abbrev cX1_sumOfThousandths : ByteArray := prog_3_method_15_code
def yX1_sumOfThousandths : MethodName := ⟨RX1, "sumOfThousandths", "(I)D"⟩
abbrev cX1_holdsAt : ByteArray := prog_3_method_16_code
def yX1_holdsAt : MethodName := ⟨RX1, "holdsAt", "(LTenonyard$Frame;I)Z"⟩
abbrev cX1_holdsAlong : ByteArray := prog_3_method_17_code
def yX1_holdsAlong : MethodName := ⟨RX1, "holdsAlong", "(LTenonyard$Frame;II)Z"⟩
def RX2 : String := "Tenonyard$Frame"
def TX2 : u_T := fun k => match k with
  | 0 => ("Tenonyard$Frame", "nodes", "I", false)
  | 1 => ("Tenonyard$Frame", "members", "I", false)
  | 2 => ("Tenonyard$Frame", "places", "[I", true)
  | 3 => ("Tenonyard$Frame", "loads", "[I", true)
  | 4 => ("Tenonyard$Frame", "loadCounts", "[I", true)
  | 5 => ("Tenonyard$Frame", "kinds", "[C", true)
  | 6 => ("Tenonyard$Frame", "firstNodes", "[I", true)
  | 7 => ("Tenonyard$Frame", "secondNodes", "[I", true)
  | 8 => ("Tenonyard$Frame", "breadths", "[I", true)
  | 9 => ("Tenonyard$Frame", "grades", "[I", true)
  | 10 => ("Tenonyard$Frame", "cutMoistures", "[I", true)
  | _ => ("Tenonyard$Frame", "driedMoistures", "[I", true)
def tyX2 : Nat → FieldType := fun k => match k with
  | 0 => .int
  | 1 => .int
  | 2 => .array .int
  | 3 => .array .int
  | 4 => .array .int
  | 5 => .array .char
  | 6 => .array .int
  | 7 => .array .int
  | 8 => .array .int
  | 9 => .array .int
  | 10 => .array .int
  | _ => .array .int
abbrev wsX20 : List Cond := u_ws RX2 TX2 12
theorem nmX2 : ∀ a, a < 12 → ∀ b, b < 12 → a ≠ b → (TX2 a).2.1 ≠ (TX2 b).2.1 := by decide +kernel
theorem tyX2_ok : ∀ k, k < 12 → parseFieldDescriptor (TX2 k).2.2.1 = some (tyX2 k) := by decide +kernel
abbrev cX2_init : ByteArray := prog_4_method_1_code
def yX2_init : MethodName := ⟨RX2, "<init>", "()V"⟩
abbrev cX2_addNode : ByteArray := prog_4_method_2_code
def yX2_addNode : MethodName := ⟨RX2, "addNode", "(IIC)I"⟩
abbrev cX2_addMember : ByteArray := prog_4_method_3_code
def yX2_addMember : MethodName := ⟨RX2, "addMember", "(IIII)I"⟩
abbrev cX2_addLoad : ByteArray := prog_4_method_4_code
def yX2_addLoad : MethodName := ⟨RX2, "addLoad", "(III)I"⟩
abbrev cX2_isOnePlace : ByteArray := prog_4_method_5_code
def yX2_isOnePlace : MethodName := ⟨RX2, "isOnePlace", "(II)Z"⟩
abbrev cX2_isBorne : ByteArray := prog_4_method_6_code
def yX2_isBorne : MethodName := ⟨RX2, "isBorne", "(II)Z"⟩
abbrev cX2_otherEnd : ByteArray := prog_4_method_7_code
def yX2_otherEnd : MethodName := ⟨RX2, "otherEnd", "(II)I"⟩
abbrev cX2_haveCommonNode : ByteArray := prog_4_method_8_code
def yX2_haveCommonNode : MethodName := ⟨RX2, "haveCommonNode", "(II)Z"⟩
abbrev cX2_wayAlong : ByteArray := prog_4_method_9_code
def yX2_wayAlong : MethodName := ⟨RX2, "wayAlong", "(III)I"⟩
abbrev cX2_lengthSquare : ByteArray := prog_4_method_10_code
def yX2_lengthSquare : MethodName := ⟨RX2, "lengthSquare", "(I)I"⟩
abbrev cX2_isOnGround : ByteArray := prog_4_method_11_code
def yX2_isOnGround : MethodName := ⟨RX2, "isOnGround", "(I)Z"⟩
def RX3 : String := "Tenonyard$Joinery"
def TX3 : u_T := fun k => match k with
  | 0 => ("Tenonyard$Joinery", "count", "I", false)
  | 1 => ("Tenonyard$Joinery", "goingIn", "[I", true)
  | 2 => ("Tenonyard$Joinery", "receiving", "[I", true)
  | 3 => ("Tenonyard$Joinery", "ways", "[I", true)
  | 4 => ("Tenonyard$Joinery", "thicknesses", "[I", true)
  | _ => ("Tenonyard$Joinery", "marks", "[I", true)
def tyX3 : Nat → FieldType := fun k => match k with
  | 0 => .int
  | 1 => .array .int
  | 2 => .array .int
  | 3 => .array .int
  | 4 => .array .int
  | _ => .array .int
abbrev wsX30 : List Cond := u_ws RX3 TX3 6
theorem nmX3 : ∀ a, a < 6 → ∀ b, b < 6 → a ≠ b → (TX3 a).2.1 ≠ (TX3 b).2.1 := by decide +kernel
theorem tyX3_ok : ∀ k, k < 6 → parseFieldDescriptor (TX3 k).2.2.1 = some (tyX3 k) := by decide +kernel
abbrev cX3_init : ByteArray := prog_5_method_1_code
def yX3_init : MethodName := ⟨RX3, "<init>", "()V"⟩
abbrev cX3_wayIndex : ByteArray := prog_5_method_2_code
def yX3_wayIndex : MethodName := ⟨RX3, "wayIndex", "(C)I"⟩
abbrev cX3_add : ByteArray := prog_5_method_3_code
def yX3_add : MethodName := ⟨RX3, "add", "(IIIII)I"⟩
abbrev cX3_areJoined : ByteArray := prog_5_method_4_code
def yX3_areJoined : MethodName := ⟨RX3, "areJoined", "(II)Z"⟩
abbrev cX3_partner : ByteArray := prog_5_method_5_code
def yX3_partner : MethodName := ⟨RX3, "partner", "(II)I"⟩
abbrev cX3_wayFor : ByteArray := prog_5_method_6_code
def yX3_wayFor : MethodName := ⟨RX3, "wayFor", "(II)I"⟩
abbrev cX3_joinsGoingIn : ByteArray := prog_5_method_7_code
def yX3_joinsGoingIn : MethodName := ⟨RX3, "joinsGoingIn", "(I)I"⟩
abbrev cX3_isThinEnough : ByteArray := prog_5_method_8_code
def yX3_isThinEnough : MethodName := ⟨RX3, "isThinEnough", "(ILTenonyard$Frame;)Z"⟩
abbrev cX3_misreadMark : ByteArray := prog_5_method_9_code
def yX3_misreadMark : MethodName := ⟨RX3, "misreadMark", "(I)I"⟩
abbrev cX3_canBeConfused : ByteArray := prog_5_method_10_code
def yX3_canBeConfused : MethodName := ⟨RX3, "canBeConfused", "(II)Z"⟩
abbrev cX3_opening : ByteArray := prog_5_method_11_code
def yX3_opening : MethodName := ⟨RX3, "opening", "(ILTenonyard$Frame;)I"⟩
def RX4 : String := "Tenonyard$Raising"
def TX4 : u_T := fun k => match k with
  | 0 => ("Tenonyard$Raising", "limit", "I", false)
  | 1 => ("Tenonyard$Raising", "isFound", "Z", false)
  | 2 => ("Tenonyard$Raising", "all", "I", false)
  | 3 => ("Tenonyard$Raising", "hanging", "I", false)
  | 4 => ("Tenonyard$Raising", "asking", "[I", true)
  | 5 => ("Tenonyard$Raising", "joined", "[I", true)
  | 6 => ("Tenonyard$Raising", "orderCounts", "[I", true)
  | 7 => ("Tenonyard$Raising", "leadsToAll", "[Z", true)
  | _ => ("Tenonyard$Raising", "order", "[I", true)
def tyX4 : Nat → FieldType := fun k => match k with
  | 0 => .int
  | 1 => .boolean
  | 2 => .int
  | 3 => .int
  | 4 => .array .int
  | 5 => .array .int
  | 6 => .array .int
  | 7 => .array .boolean
  | _ => .array .int
abbrev wsX40 : List Cond := u_ws RX4 TX4 9
theorem nmX4 : ∀ a, a < 9 → ∀ b, b < 9 → a ≠ b → (TX4 a).2.1 ≠ (TX4 b).2.1 := by decide +kernel
theorem tyX4_ok : ∀ k, k < 9 → parseFieldDescriptor (TX4 k).2.2.1 = some (tyX4 k) := by decide +kernel
abbrev cX4_init : ByteArray := prog_6_method_1_code
def yX4_init : MethodName := ⟨RX4, "<init>", "()V"⟩
abbrev cX4_orderCount : ByteArray := prog_6_method_2_code
def yX4_orderCount : MethodName := ⟨RX4, "orderCount", "()I"⟩
abbrev cX4_find : ByteArray := prog_6_method_3_code
def yX4_find : MethodName := ⟨RX4, "find", "(LTenonyard$Frame;LTenonyard$Joinery;)V"⟩
abbrev cX4_gather : ByteArray := prog_6_method_4_code
def yX4_gather : MethodName := ⟨RX4, "gather", "(LTenonyard$Frame;LTenonyard$Joinery;)V"⟩
abbrev cX4_canMoveIn : ByteArray := prog_6_method_5_code
def yX4_canMoveIn : MethodName := ⟨RX4, "canMoveIn", "(II)Z"⟩
abbrev cX4_propsFor : ByteArray := prog_6_method_6_code
def yX4_propsFor : MethodName := ⟨RX4, "propsFor", "(I)I"⟩
abbrev cX4_goForward : ByteArray := prog_6_method_7_code
def yX4_goForward : MethodName := ⟨RX4, "goForward", "(I)V"⟩
abbrev cX4_goBackward : ByteArray := prog_6_method_8_code
def yX4_goBackward : MethodName := ⟨RX4, "goBackward", "(I)V"⟩
abbrev cX4_findOrder : ByteArray := prog_6_method_9_code
def yX4_findOrder : MethodName := ⟨RX4, "findOrder", "(I)V"⟩
abbrev cX4_firstThatLeads : ByteArray := prog_6_method_10_code
def yX4_firstThatLeads : MethodName := ⟨RX4, "firstThatLeads", "(II)I"⟩
abbrev cX4_lowestStuck : ByteArray := prog_6_method_11_code
def yX4_lowestStuck : MethodName := ⟨RX4, "lowestStuck", "()I"⟩
def RX5 : String := "Tenonyard$Wide"
def TX5 : u_T := fun k => match k with
  | _ => ("Tenonyard$Wide", "parts", "[J", true)
def tyX5 : Nat → FieldType := fun k => match k with
  | _ => .array .long
abbrev wsX50 : List Cond := u_ws RX5 TX5 1
theorem nmX5 : ∀ a, a < 1 → ∀ b, b < 1 → a ≠ b → (TX5 a).2.1 ≠ (TX5 b).2.1 := by decide +kernel
theorem tyX5_ok : ∀ k, k < 1 → parseFieldDescriptor (TX5 k).2.2.1 = some (tyX5 k) := by decide +kernel
abbrev cX5_init : ByteArray := prog_7_method_1_code
def yX5_init : MethodName := ⟨RX5, "<init>", "()V"⟩
abbrev cX5_set : ByteArray := prog_7_method_2_code
def yX5_set : MethodName := ⟨RX5, "set", "(J)V"⟩
abbrev cX5_add : ByteArray := prog_7_method_3_code
def yX5_add : MethodName := ⟨RX5, "add", "(J)V"⟩
abbrev cX5_setProduct : ByteArray := prog_7_method_4_code
def yX5_setProduct : MethodName := ⟨RX5, "setProduct", "(LTenonyard$Wide;LTenonyard$Wide;)V"⟩
abbrev cX5_isAtMost : ByteArray := prog_7_method_5_code
def yX5_isAtMost : MethodName := ⟨RX5, "isAtMost", "(LTenonyard$Wide;)Z"⟩
def RX6 : String := "Tenonyard"
def TX6 : u_T := fun k => match k with
  | 0 => ("Tenonyard", "frame", "LTenonyard$Frame;", true)
  | 1 => ("Tenonyard", "forces", "LTenonyard$Forces;", true)
  | 2 => ("Tenonyard", "joinery", "LTenonyard$Joinery;", true)
  | 3 => ("Tenonyard", "cutting", "LTenonyard$Cutting;", true)
  | _ => ("Tenonyard", "raising", "LTenonyard$Raising;", true)
def tyX6 : Nat → FieldType := fun k => match k with
  | 0 => .object "Tenonyard$Frame"
  | 1 => .object "Tenonyard$Forces"
  | 2 => .object "Tenonyard$Joinery"
  | 3 => .object "Tenonyard$Cutting"
  | _ => .object "Tenonyard$Raising"
abbrev wsX60 : List Cond := u_ws RX6 TX6 5
theorem nmX6 : ∀ a, a < 5 → ∀ b, b < 5 → a ≠ b → (TX6 a).2.1 ≠ (TX6 b).2.1 := by decide +kernel
theorem tyX6_ok : ∀ k, k < 5 → parseFieldDescriptor (TX6 k).2.2.1 = some (tyX6 k) := by decide +kernel
abbrev cX6_init : ByteArray := prog_1_method_1_code
def yX6_init : MethodName := ⟨RX6, "<init>", "()V"⟩
abbrev cX6_node : ByteArray := prog_1_method_2_code
def yX6_node : MethodName := ⟨RX6, "node", "(IIC)I"⟩
abbrev cX6_member : ByteArray := prog_1_method_3_code
def yX6_member : MethodName := ⟨RX6, "member", "(IIII)I"⟩
abbrev cX6_load : ByteArray := prog_1_method_4_code
def yX6_load : MethodName := ⟨RX6, "load", "(III)I"⟩
abbrev cX6_state : ByteArray := prog_1_method_5_code
def yX6_state : MethodName := ⟨RX6, "state", "()C"⟩
abbrev cX6_force : ByteArray := prog_1_method_6_code
def yX6_force : MethodName := ⟨RX6, "force", "(I)J"⟩
abbrev cX6_pull : ByteArray := prog_1_method_7_code
def yX6_pull : MethodName := ⟨RX6, "pull", "(I)J"⟩
abbrev cX6_isBalanced : ByteArray := prog_1_method_9_code
def yX6_isBalanced : MethodName := ⟨RX6, "isBalanced", "(I)Z"⟩
abbrev cX6_weakest : ByteArray := prog_1_method_10_code
def yX6_weakest : MethodName := ⟨RX6, "weakest", "()I"⟩
abbrev cX6_joint : ByteArray := prog_1_method_11_code
def yX6_joint : MethodName := ⟨RX6, "joint", "(IICII)I"⟩
abbrev cX6_isRight : ByteArray := prog_1_method_12_code
def yX6_isRight : MethodName := ⟨RX6, "isRight", "(I)Z"⟩
abbrev cX6_misread : ByteArray := prog_1_method_13_code
def yX6_misread : MethodName := ⟨RX6, "misread", "(I)I"⟩
abbrev cX6_clashes : ByteArray := prog_1_method_14_code
def yX6_clashes : MethodName := ⟨RX6, "clashes", "()I"⟩
abbrev cX6_cutAt : ByteArray := prog_1_method_15_code
def yX6_cutAt : MethodName := ⟨RX6, "cutAt", "(II)I"⟩
abbrev cX6_dry : ByteArray := prog_1_method_16_code
def yX6_dry : MethodName := ⟨RX6, "dry", "(II)I"⟩
abbrev cX6_gap : ByteArray := prog_1_method_17_code
def yX6_gap : MethodName := ⟨RX6, "gap", "(I)I"⟩
abbrev cX6_widest : ByteArray := prog_1_method_18_code
def yX6_widest : MethodName := ⟨RX6, "widest", "()I"⟩
abbrev cX6_stick : ByteArray := prog_1_method_19_code
def yX6_stick : MethodName := ⟨RX6, "stick", "(III)I"⟩
abbrev cX6_piece : ByteArray := prog_1_method_20_code
def yX6_piece : MethodName := ⟨RX6, "piece", "(I)I"⟩
abbrev cX6_stickOf : ByteArray := prog_1_method_21_code
def yX6_stickOf : MethodName := ⟨RX6, "stickOf", "(I)I"⟩
abbrev cX6_wood : ByteArray := prog_1_method_22_code
def yX6_wood : MethodName := ⟨RX6, "wood", "()I"⟩
abbrev cX6_waste : ByteArray := prog_1_method_23_code
def yX6_waste : MethodName := ⟨RX6, "waste", "(I)I"⟩
abbrev cX6_setProps : ByteArray := prog_1_method_24_code
def yX6_setProps : MethodName := ⟨RX6, "setProps", "(I)I"⟩
abbrev cX6_raised : ByteArray := prog_1_method_25_code
def yX6_raised : MethodName := ⟨RX6, "raised", "(I)I"⟩
abbrev cX6_canRaise : ByteArray := prog_1_method_26_code
def yX6_canRaise : MethodName := ⟨RX6, "canRaise", "()Z"⟩
abbrev cX6_canTakeAway : ByteArray := prog_1_method_27_code
def yX6_canTakeAway : MethodName := ⟨RX6, "canTakeAway", "()Z"⟩
abbrev cX6_orders : ByteArray := prog_1_method_28_code
def yX6_orders : MethodName := ⟨RX6, "orders", "()I"⟩
abbrev cX6_props : ByteArray := prog_1_method_29_code
def yX6_props : MethodName := ⟨RX6, "props", "(I)I"⟩
abbrev cX6_stuck : ByteArray := prog_1_method_30_code
def yX6_stuck : MethodName := ⟨RX6, "stuck", "()I"⟩
abbrev cX6_allForce : ByteArray := prog_1_method_31_code
def yX6_allForce : MethodName := ⟨RX6, "allForce", "()J"⟩
abbrev cX6_rightShare : ByteArray := prog_1_method_32_code
def yX6_rightShare : MethodName := ⟨RX6, "rightShare", "()F"⟩
abbrev cX6_meanPull : ByteArray := prog_1_method_33_code
def yX6_meanPull : MethodName := ⟨RX6, "meanPull", "()D"⟩
abbrev cX6_isSound : ByteArray := prog_1_method_34_code
def yX6_isSound : MethodName := ⟨RX6, "isSound", "()Z"⟩
abbrev cX6_isWithin : ByteArray := prog_1_method_35_code
def yX6_isWithin : MethodName := ⟨RX6, "isWithin", "(III)Z"⟩
abbrev cX6_isSection : ByteArray := prog_1_method_36_code
def yX6_isSection : MethodName := ⟨RX6, "isSection", "(II)Z"⟩
abbrev cX6_checkNode : ByteArray := prog_1_method_37_code
def yX6_checkNode : MethodName := ⟨RX6, "checkNode", "(I)V"⟩
abbrev cX6_checkMember : ByteArray := prog_1_method_38_code
def yX6_checkMember : MethodName := ⟨RX6, "checkMember", "(I)V"⟩
abbrev cX6_checkJoint : ByteArray := prog_1_method_39_code
def yX6_checkJoint : MethodName := ⟨RX6, "checkJoint", "(I)V"⟩
abbrev cX6_checkMoisture : ByteArray := prog_1_method_40_code
def yX6_checkMoisture : MethodName := ⟨RX6, "checkMoisture", "(I)V"⟩
abbrev cX6_checkStanding : ByteArray := prog_1_method_41_code
def yX6_checkStanding : MethodName := ⟨RX6, "checkStanding", "()V"⟩
abbrev cX6_checkCut : ByteArray := prog_1_method_42_code
def yX6_checkCut : MethodName := ⟨RX6, "checkCut", "()V"⟩
abbrev cX6_checkPlaceInOrder : ByteArray := prog_1_method_43_code
def yX6_checkPlaceInOrder : MethodName := ⟨RX6, "checkPlaceInOrder", "(I)V"⟩
def RX7 : String := "TenonyardModel$Joint"
def TX7 : u_T := fun k => match k with
  | _ => ("", "", "", false)
def tyX7 : Nat → FieldType := fun k => match k with
  | _ => .int
abbrev wsX70 : List Cond := u_ws RX7 TX7 0
theorem nmX7 : ∀ a, a < 0 → ∀ b, b < 0 → a ≠ b → (TX7 a).2.1 ≠ (TX7 b).2.1 := by decide +kernel
theorem tyX7_ok : ∀ k, k < 0 → parseFieldDescriptor (TX7 k).2.2.1 = some (tyX7 k) := by decide +kernel
def RX8 : String := "TenonyardModel$Member"
def TX8 : u_T := fun k => match k with
  | _ => ("", "", "", false)
def tyX8 : Nat → FieldType := fun k => match k with
  | _ => .int
abbrev wsX80 : List Cond := u_ws RX8 TX8 0
theorem nmX8 : ∀ a, a < 0 → ∀ b, b < 0 → a ≠ b → (TX8 a).2.1 ≠ (TX8 b).2.1 := by decide +kernel
theorem tyX8_ok : ∀ k, k < 0 → parseFieldDescriptor (TX8 k).2.2.1 = some (tyX8 k) := by decide +kernel
def RX9 : String := "TenonyardModel$Node"
def TX9 : u_T := fun k => match k with
  | _ => ("", "", "", false)
def tyX9 : Nat → FieldType := fun k => match k with
  | _ => .int
abbrev wsX90 : List Cond := u_ws RX9 TX9 0
theorem nmX9 : ∀ a, a < 0 → ∀ b, b < 0 → a ≠ b → (TX9 a).2.1 ≠ (TX9 b).2.1 := by decide +kernel
theorem tyX9_ok : ∀ k, k < 0 → parseFieldDescriptor (TX9 k).2.2.1 = some (tyX9 k) := by decide +kernel
def RX10 : String := "TenonyardModel$Stick"
def TX10 : u_T := fun k => match k with
  | _ => ("", "", "", false)
def tyX10 : Nat → FieldType := fun k => match k with
  | _ => .int
abbrev wsX100 : List Cond := u_ws RX10 TX10 0
theorem nmX10 : ∀ a, a < 0 → ∀ b, b < 0 → a ≠ b → (TX10 a).2.1 ≠ (TX10 b).2.1 := by decide +kernel
theorem tyX10_ok : ∀ k, k < 0 → parseFieldDescriptor (TX10 k).2.2.1 = some (tyX10 k) := by decide +kernel
def RX11 : String := "TenonyardModel$Wide"
def TX11 : u_T := fun k => match k with
  | _ => ("", "", "", false)
def tyX11 : Nat → FieldType := fun k => match k with
  | _ => .int
abbrev wsX110 : List Cond := u_ws RX11 TX11 0
theorem nmX11 : ∀ a, a < 0 → ∀ b, b < 0 → a ≠ b → (TX11 a).2.1 ≠ (TX11 b).2.1 := by decide +kernel
theorem tyX11_ok : ∀ k, k < 0 → parseFieldDescriptor (TX11 k).2.2.1 = some (tyX11 k) := by decide +kernel
def RX12 : String := "TenonyardModel"
def TX12 : u_T := fun k => match k with
  | _ => ("", "", "", false)
def tyX12 : Nat → FieldType := fun k => match k with
  | _ => .int
abbrev wsX120 : List Cond := u_ws RX12 TX12 0
theorem nmX12 : ∀ a, a < 0 → ∀ b, b < 0 → a ≠ b → (TX12 a).2.1 ≠ (TX12 b).2.1 := by decide +kernel
theorem tyX12_ok : ∀ k, k < 0 → parseFieldDescriptor (TX12 k).2.2.1 = some (tyX12 k) := by decide +kernel
def RJx145de : String := "java/io/Serializable"
def TJx145de : u_T := fun k => match k with
  | _ => ("", "", "", false)
def tyJx145de : Nat → FieldType := fun k => match k with
  | _ => .int
abbrev wsJx145de0 : List Cond := u_ws RJx145de TJx145de 0
theorem nmJx145de : ∀ a, a < 0 → ∀ b, b < 0 → a ≠ b → (TJx145de a).2.1 ≠ (TJx145de b).2.1 := by decide +kernel
theorem tyJx145de_ok : ∀ k, k < 0 → parseFieldDescriptor (TJx145de k).2.2.1 = some (tyJx145de k) := by decide +kernel
def RJx00060 : String := "java/lang/ArrayIndexOutOfBoundsException"
def TJx00060 : u_T := fun k => match k with
  | 0 => ("java/lang/Throwable", "backtrace", "Ljava/lang/Object;", false)
  | 1 => ("java/lang/Throwable", "detailMessage", "Ljava/lang/String;", false)
  | 2 => ("java/lang/Throwable", "cause", "Ljava/lang/Throwable;", false)
  | 3 => ("java/lang/Throwable", "stackTrace", "[Ljava/lang/StackTraceElement;", false)
  | 4 => ("java/lang/Throwable", "depth", "I", false)
  | _ => ("java/lang/Throwable", "suppressedExceptions", "Ljava/util/List;", false)
def tyJx00060 : Nat → FieldType := fun k => match k with
  | 0 => .object "java/lang/Object"
  | 1 => .object "java/lang/String"
  | 2 => .object "java/lang/Throwable"
  | 3 => .array (.object "java/lang/StackTraceElement")
  | 4 => .int
  | _ => .object "java/util/List"
abbrev wsJx000600 : List Cond := u_ws RJx00060 TJx00060 6
theorem nmJx00060 : ∀ a, a < 6 → ∀ b, b < 6 → a ≠ b → (TJx00060 a).2.1 ≠ (TJx00060 b).2.1 := by decide +kernel
theorem tyJx00060_ok : ∀ k, k < 6 → parseFieldDescriptor (TJx00060 k).2.2.1 = some (tyJx00060 k) := by decide +kernel
abbrev cJx00060_init_a7421 : ByteArray := prog_17_method_2_code
def yJx00060_init_a7421 : MethodName := ⟨RJx00060, "<init>", "(Ljava/lang/String;)V"⟩
def RJx9f9b0 : String := "java/lang/CharSequence"
def TJx9f9b0 : u_T := fun k => match k with
  | _ => ("", "", "", false)
def tyJx9f9b0 : Nat → FieldType := fun k => match k with
  | _ => .int
abbrev wsJx9f9b00 : List Cond := u_ws RJx9f9b0 TJx9f9b0 0
theorem nmJx9f9b0 : ∀ a, a < 0 → ∀ b, b < 0 → a ≠ b → (TJx9f9b0 a).2.1 ≠ (TJx9f9b0 b).2.1 := by decide +kernel
theorem tyJx9f9b0_ok : ∀ k, k < 0 → parseFieldDescriptor (TJx9f9b0 k).2.2.1 = some (tyJx9f9b0 k) := by decide +kernel
def RJ11 : String := "java/lang/Character"
def TJ11 : u_T := fun k => match k with
  | _ => ("", "", "", false)
def tyJ11 : Nat → FieldType := fun k => match k with
  | _ => .int
abbrev wsJ110 : List Cond := u_ws RJ11 TJ11 0
theorem nmJ11 : ∀ a, a < 0 → ∀ b, b < 0 → a ≠ b → (TJ11 a).2.1 ≠ (TJ11 b).2.1 := by decide +kernel
theorem tyJ11_ok : ∀ k, k < 0 → parseFieldDescriptor (TJ11 k).2.2.1 = some (tyJ11 k) := by decide +kernel
abbrev cJ11_isValidCodePoint_9a6ad : ByteArray := prog_19_method_11_code
def yJ11_isValidCodePoint_9a6ad : MethodName := ⟨RJ11, "isValidCodePoint", "(I)Z"⟩
abbrev cJ11_highSurrogate_5068e : ByteArray := prog_19_method_28_code
def yJ11_highSurrogate_5068e : MethodName := ⟨RJ11, "highSurrogate", "(I)C"⟩
abbrev cJ11_lowSurrogate_5068e : ByteArray := prog_19_method_29_code
def yJ11_lowSurrogate_5068e : MethodName := ⟨RJ11, "lowSurrogate", "(I)C"⟩
def RJxb160c : String := "java/lang/Comparable"
def TJxb160c : u_T := fun k => match k with
  | _ => ("", "", "", false)
def tyJxb160c : Nat → FieldType := fun k => match k with
  | _ => .int
abbrev wsJxb160c0 : List Cond := u_ws RJxb160c TJxb160c 0
theorem nmJxb160c : ∀ a, a < 0 → ∀ b, b < 0 → a ≠ b → (TJxb160c a).2.1 ≠ (TJxb160c b).2.1 := by decide +kernel
theorem tyJxb160c_ok : ∀ k, k < 0 → parseFieldDescriptor (TJxb160c k).2.2.1 = some (tyJxb160c k) := by decide +kernel
def RJ6 : String := "java/lang/Integer"
def TJ6 : u_T := fun k => match k with
  | _ => ("", "", "", false)
def tyJ6 : Nat → FieldType := fun k => match k with
  | _ => .int
abbrev wsJ60 : List Cond := u_ws RJ6 TJ6 0
theorem nmJ6 : ∀ a, a < 0 → ∀ b, b < 0 → a ≠ b → (TJ6 a).2.1 ≠ (TJ6 b).2.1 := by decide +kernel
theorem tyJ6_ok : ∀ k, k < 0 → parseFieldDescriptor (TJ6 k).2.2.1 = some (tyJ6 k) := by decide +kernel
abbrev cJ6_bitCount_0f7a4 : ByteArray := prog_25_method_49_code
def yJ6_bitCount_0f7a4 : MethodName := ⟨RJ6, "bitCount", "(I)I"⟩
def RJ9 : String := "java/lang/Math"
def TJ9 : u_T := fun k => match k with
  | _ => ("", "", "", false)
def tyJ9 : Nat → FieldType := fun k => match k with
  | _ => .int
abbrev wsJ90 : List Cond := u_ws RJ9 TJ9 0
theorem nmJ9 : ∀ a, a < 0 → ∀ b, b < 0 → a ≠ b → (TJ9 a).2.1 ≠ (TJ9 b).2.1 := by decide +kernel
theorem tyJ9_ok : ∀ k, k < 0 → parseFieldDescriptor (TJ9 k).2.2.1 = some (tyJ9 k) := by decide +kernel
abbrev cJ9_floorDiv_f86c9 : ByteArray := prog_26_method_49_code
def yJ9_floorDiv_f86c9 : MethodName := ⟨RJ9, "floorDiv", "(JJ)J"⟩
abbrev cJ9_floorMod_f86c9 : ByteArray := prog_26_method_52_code
def yJ9_floorMod_f86c9 : MethodName := ⟨RJ9, "floorMod", "(JJ)J"⟩
abbrev cJ9_abs_067f4 : ByteArray := prog_26_method_61_code
def yJ9_abs_067f4 : MethodName := ⟨RJ9, "abs", "(J)J"⟩
abbrev cJ9_max_7cf53 : ByteArray := prog_26_method_65_code
def yJ9_max_7cf53 : MethodName := ⟨RJ9, "max", "(II)I"⟩
abbrev cJ9_max_f86c9 : ByteArray := prog_26_method_66_code
def yJ9_max_f86c9 : MethodName := ⟨RJ9, "max", "(JJ)J"⟩
abbrev cJ9_min_7cf53 : ByteArray := prog_26_method_69_code
def yJ9_min_7cf53 : MethodName := ⟨RJ9, "min", "(II)I"⟩
abbrev cJ9_min_f86c9 : ByteArray := prog_26_method_70_code
def yJ9_min_f86c9 : MethodName := ⟨RJ9, "min", "(JJ)J"⟩
def RJ0 : String := "java/lang/String"
def TJ0 : u_T := fun k => match k with
  | 0 => ("java/lang/String", "value", "[B", true)
  | _ => ("java/lang/String", "coder", "B", true)
def tyJ0 : Nat → FieldType := fun k => match k with
  | 0 => .array .byte
  | _ => .byte
abbrev wsJ00 : List Cond := u_ws RJ0 TJ0 2
theorem nmJ0 : ∀ a, a < 2 → ∀ b, b < 2 → a ≠ b → (TJ0 a).2.1 ≠ (TJ0 b).2.1 := by decide +kernel
theorem tyJ0_ok : ∀ k, k < 2 → parseFieldDescriptor (TJ0 k).2.2.1 = some (tyJ0 k) := by decide +kernel
abbrev cJ0_length_8abf5 : ByteArray := prog_28_method_54_code
def yJ0_length_8abf5 : MethodName := ⟨RJ0, "length", "()I"⟩
abbrev cJ0_charAt_5068e : ByteArray := prog_28_method_56_code
def yJ0_charAt_5068e : MethodName := ⟨RJ0, "charAt", "(I)C"⟩
abbrev cJ0_indexOf_0f7a4 : ByteArray := prog_28_method_79_code
def yJ0_indexOf_0f7a4 : MethodName := ⟨RJ0, "indexOf", "(I)I"⟩
abbrev cJ0_indexOf_7cf53 : ByteArray := prog_28_method_80_code
def yJ0_indexOf_7cf53 : MethodName := ⟨RJ0, "indexOf", "(II)I"⟩
abbrev cJ0_coder_7d493 : ByteArray := prog_28_method_152_code
def yJ0_coder_7d493 : MethodName := ⟨RJ0, "coder", "()B"⟩
abbrev cJ0_isLatin1_aae02 : ByteArray := prog_28_method_154_code
def yJ0_isLatin1_aae02 : MethodName := ⟨RJ0, "isLatin1", "()Z"⟩
abbrev cJ0_checkIndex_df160 : ByteArray := prog_28_method_155_code
def yJ0_checkIndex_df160 : MethodName := ⟨RJ0, "checkIndex", "(II)V"⟩
abbrev cJ0_checkBoundsBeginEnd_23922 : ByteArray := prog_28_method_158_code
def yJ0_checkBoundsBeginEnd_23922 : MethodName := ⟨RJ0, "checkBoundsBeginEnd", "(III)V"⟩
def RJ1 : String := "java/lang/StringLatin1"
def TJ1 : u_T := fun k => match k with
  | _ => ("", "", "", false)
def tyJ1 : Nat → FieldType := fun k => match k with
  | _ => .int
abbrev wsJ10 : List Cond := u_ws RJ1 TJ1 0
theorem nmJ1 : ∀ a, a < 0 → ∀ b, b < 0 → a ≠ b → (TJ1 a).2.1 ≠ (TJ1 b).2.1 := by decide +kernel
theorem tyJ1_ok : ∀ k, k < 0 → parseFieldDescriptor (TJ1 k).2.2.1 = some (tyJ1 k) := by decide +kernel
abbrev cJ1_charAt_3b067 : ByteArray := prog_29_method_2_code
def yJ1_charAt_3b067 : MethodName := ⟨RJ1, "charAt", "([BI)C"⟩
abbrev cJ1_canEncode_9a6ad : ByteArray := prog_29_method_4_code
def yJ1_canEncode_9a6ad : MethodName := ⟨RJ1, "canEncode", "(I)Z"⟩
abbrev cJ1_indexOf_4cfef : ByteArray := prog_29_method_22_code
def yJ1_indexOf_4cfef : MethodName := ⟨RJ1, "indexOf", "([BIII)I"⟩
abbrev cJ1_indexOfChar_4cfef : ByteArray := prog_29_method_23_code
def yJ1_indexOfChar_4cfef : MethodName := ⟨RJ1, "indexOfChar", "([BIII)I"⟩
def RJ2 : String := "java/lang/StringUTF16"
def TJ2 : u_T := fun k => match k with
  | _ => ("", "", "", false)
def tyJ2 : Nat → FieldType := fun k => match k with
  | _ => .int
abbrev wsJ20 : List Cond := u_ws RJ2 TJ2 0
theorem nmJ2 : ∀ a, a < 0 → ∀ b, b < 0 → a ≠ b → (TJ2 a).2.1 ≠ (TJ2 b).2.1 := by decide +kernel
theorem tyJ2_ok : ∀ k, k < 0 → parseFieldDescriptor (TJ2 k).2.2.1 = some (tyJ2 k) := by decide +kernel
abbrev cJ2_getChar_3b067 : ByteArray := prog_30_method_5_code
def yJ2_getChar_3b067 : MethodName := ⟨RJ2, "getChar", "([BI)C"⟩
abbrev cJ2_length_9d52b : ByteArray := prog_30_method_6_code
def yJ2_length_9d52b : MethodName := ⟨RJ2, "length", "([B)I"⟩
abbrev cJ2_indexOf_4cfef : ByteArray := prog_30_method_40_code
def yJ2_indexOf_4cfef : MethodName := ⟨RJ2, "indexOf", "([BIII)I"⟩
abbrev cJ2_indexOfChar_4cfef : ByteArray := prog_30_method_47_code
def yJ2_indexOfChar_4cfef : MethodName := ⟨RJ2, "indexOfChar", "([BIII)I"⟩
abbrev cJ2_indexOfCharUnsafe_4cfef : ByteArray := prog_30_method_48_code
def yJ2_indexOfCharUnsafe_4cfef : MethodName := ⟨RJ2, "indexOfCharUnsafe", "([BIII)I"⟩
abbrev cJ2_indexOfSupplementary_4cfef : ByteArray := prog_30_method_49_code
def yJ2_indexOfSupplementary_4cfef : MethodName := ⟨RJ2, "indexOfSupplementary", "([BIII)I"⟩
abbrev cJ2_charAt_3b067 : ByteArray := prog_30_method_83_code
def yJ2_charAt_3b067 : MethodName := ⟨RJ2, "charAt", "([BI)C"⟩
abbrev cJ2_checkIndex_2214a : ByteArray := prog_30_method_91_code
def yJ2_checkIndex_2214a : MethodName := ⟨RJ2, "checkIndex", "(I[B)V"⟩
abbrev cJ2_checkBoundsBeginEnd_d044e : ByteArray := prog_30_method_93_code
def yJ2_checkBoundsBeginEnd_d044e : MethodName := ⟨RJ2, "checkBoundsBeginEnd", "(II[B)V"⟩
def RJxfd54e : String := "java/lang/constant/Constable"
def TJxfd54e : u_T := fun k => match k with
  | _ => ("", "", "", false)
def tyJxfd54e : Nat → FieldType := fun k => match k with
  | _ => .int
abbrev wsJxfd54e0 : List Cond := u_ws RJxfd54e TJxfd54e 0
theorem nmJxfd54e : ∀ a, a < 0 → ∀ b, b < 0 → a ≠ b → (TJxfd54e a).2.1 ≠ (TJxfd54e b).2.1 := by decide +kernel
theorem tyJxfd54e_ok : ∀ k, k < 0 → parseFieldDescriptor (TJxfd54e k).2.2.1 = some (tyJxfd54e k) := by decide +kernel
def RJx3cf43 : String := "java/lang/constant/ConstantDesc"
def TJx3cf43 : u_T := fun k => match k with
  | _ => ("", "", "", false)
def tyJx3cf43 : Nat → FieldType := fun k => match k with
  | _ => .int
abbrev wsJx3cf430 : List Cond := u_ws RJx3cf43 TJx3cf43 0
theorem nmJx3cf43 : ∀ a, a < 0 → ∀ b, b < 0 → a ≠ b → (TJx3cf43 a).2.1 ≠ (TJx3cf43 b).2.1 := by decide +kernel
theorem tyJx3cf43_ok : ∀ k, k < 0 → parseFieldDescriptor (TJx3cf43 k).2.2.1 = some (tyJx3cf43 k) := by decide +kernel
def RJ3 : String := "jdk/internal/util/Preconditions"
def TJ3 : u_T := fun k => match k with
  | _ => ("", "", "", false)
def tyJ3 : Nat → FieldType := fun k => match k with
  | _ => .int
abbrev wsJ30 : List Cond := u_ws RJ3 TJ3 0
theorem nmJ3 : ∀ a, a < 0 → ∀ b, b < 0 → a ≠ b → (TJ3 a).2.1 ≠ (TJ3 b).2.1 := by decide +kernel
theorem tyJ3_ok : ∀ k, k < 0 → parseFieldDescriptor (TJ3 k).2.2.1 = some (tyJ3 k) := by decide +kernel
abbrev cJ3_checkIndex_8e157 : ByteArray := prog_36_method_11_code
def yJ3_checkIndex_8e157 : MethodName := ⟨RJ3, "checkIndex", "(IILjava/util/function/BiFunction;)I"⟩
abbrev cJ3_checkFromToIndex_8c36e : ByteArray := prog_36_method_12_code
def yJ3_checkFromToIndex_8c36e : MethodName := ⟨RJ3, "checkFromToIndex", "(IIILjava/util/function/BiFunction;)I"⟩
def RL : String := "TenonyardLaw"
abbrev cL_cell : ByteArray := method_2_code
def yL_cell : MethodName := ⟨RL, "cell", "([II)I"⟩
abbrev cL_pick : ByteArray := method_3_code
def yL_pick : MethodName := ⟨RL, "pick", "([III)I"⟩
abbrev cL_node : ByteArray := method_4_code
def yL_node : MethodName := ⟨RL, "node", "(LTenonyard;IIC)I"⟩
abbrev cL_member : ByteArray := method_5_code
def yL_member : MethodName := ⟨RL, "member", "(LTenonyard;IIII)I"⟩
abbrev cL_load : ByteArray := method_6_code
def yL_load : MethodName := ⟨RL, "load", "(LTenonyard;III)I"⟩
abbrev cL_force : ByteArray := method_7_code
def yL_force : MethodName := ⟨RL, "force", "(LTenonyard;I)J"⟩
abbrev cL_pull : ByteArray := method_8_code
def yL_pull : MethodName := ⟨RL, "pull", "(LTenonyard;I)J"⟩
abbrev cL_isBalanced : ByteArray := method_9_code
def yL_isBalanced : MethodName := ⟨RL, "isBalanced", "(LTenonyard;I)I"⟩
abbrev cL_weakest : ByteArray := method_10_code
def yL_weakest : MethodName := ⟨RL, "weakest", "(LTenonyard;)I"⟩
abbrev cL_joint : ByteArray := method_11_code
def yL_joint : MethodName := ⟨RL, "joint", "(LTenonyard;IICII)I"⟩
abbrev cL_isRight : ByteArray := method_12_code
def yL_isRight : MethodName := ⟨RL, "isRight", "(LTenonyard;I)I"⟩
abbrev cL_misread : ByteArray := method_13_code
def yL_misread : MethodName := ⟨RL, "misread", "(LTenonyard;I)I"⟩
abbrev cL_cutAt : ByteArray := method_14_code
def yL_cutAt : MethodName := ⟨RL, "cutAt", "(LTenonyard;II)I"⟩
abbrev cL_dry : ByteArray := method_15_code
def yL_dry : MethodName := ⟨RL, "dry", "(LTenonyard;II)I"⟩
abbrev cL_gap : ByteArray := method_16_code
def yL_gap : MethodName := ⟨RL, "gap", "(LTenonyard;I)I"⟩
abbrev cL_widest : ByteArray := method_17_code
def yL_widest : MethodName := ⟨RL, "widest", "(LTenonyard;)I"⟩
abbrev cL_stick : ByteArray := method_18_code
def yL_stick : MethodName := ⟨RL, "stick", "(LTenonyard;III)I"⟩
abbrev cL_piece : ByteArray := method_19_code
def yL_piece : MethodName := ⟨RL, "piece", "(LTenonyard;I)I"⟩
abbrev cL_stickOf : ByteArray := method_20_code
def yL_stickOf : MethodName := ⟨RL, "stickOf", "(LTenonyard;I)I"⟩
abbrev cL_wood : ByteArray := method_21_code
def yL_wood : MethodName := ⟨RL, "wood", "(LTenonyard;)I"⟩
abbrev cL_waste : ByteArray := method_22_code
def yL_waste : MethodName := ⟨RL, "waste", "(LTenonyard;I)I"⟩
abbrev cL_setProps : ByteArray := method_23_code
def yL_setProps : MethodName := ⟨RL, "setProps", "(LTenonyard;I)I"⟩
abbrev cL_raised : ByteArray := method_24_code
def yL_raised : MethodName := ⟨RL, "raised", "(LTenonyard;I)I"⟩
abbrev cL_props : ByteArray := method_25_code
def yL_props : MethodName := ⟨RL, "props", "(LTenonyard;I)I"⟩
abbrev cL_stuck : ByteArray := method_26_code
def yL_stuck : MethodName := ⟨RL, "stuck", "(LTenonyard;)I"⟩
abbrev cL_allForce : ByteArray := method_27_code
def yL_allForce : MethodName := ⟨RL, "allForce", "(LTenonyard;)J"⟩
abbrev cL_rightShare : ByteArray := method_28_code
def yL_rightShare : MethodName := ⟨RL, "rightShare", "(LTenonyard;)F"⟩
abbrev cL_meanPull : ByteArray := method_29_code
def yL_meanPull : MethodName := ⟨RL, "meanPull", "(LTenonyard;)D"⟩
abbrev cL_law : ByteArray := code
def yL_law : MethodName := ⟨RL, "law", "([I)Z"⟩
abbrev cL_isFrame : ByteArray := method_31_code
def yL_isFrame : MethodName := ⟨RL, "isFrame", "(LTenonyard;II)Z"⟩
abbrev cL_areJoints : ByteArray := method_32_code
def yL_areJoints : MethodName := ⟨RL, "areJoints", "(LTenonyard;I)Z"⟩
abbrev cL_isYard : ByteArray := method_33_code
def yL_isYard : MethodName := ⟨RL, "isYard", "(LTenonyard;II)Z"⟩
abbrev cL_isRaising : ByteArray := method_34_code
def yL_isRaising : MethodName := ⟨RL, "isRaising", "(LTenonyard;I)Z"⟩
abbrev cL_isThrown : ByteArray := method_35_code
def yL_isThrown : MethodName := ⟨RL, "isThrown", "(LTenonyard;)Z"⟩
abbrev vwCl : List vw_C := [(RJ0, TJ0, 2), (RJx00060, TJx00060, 6), (RX0, TX0, 11), (RX1, TX1, 17), (RX2, TX2, 12), (RX3, TX3, 6), (RX4, TX4, 9), (RX5, TX5, 1), (RX6, TX6, 5)]
end
section
/-! words: one list for all methods -/
def GW : List Cond := lw_tbl.filter goodWord
def nwWord : Cond → Bool
  | .castable .. | .declares _ | .fieldLinkNest .. | .methodLinkNest .. => true
  | _ => false
def NW : List Cond := lw_tbl.filter nwWord
theorem gw_of {i : Nat} {w : Cond} (h : lw_tbl[i]? = some w) (g : goodWord w = true) : w ∈ GW := List.mem_filter.mpr ⟨List.mem_of_getElem? h, g⟩
theorem nw_of {i : Nat} {w : Cond} (h : lw_tbl[i]? = some w) (g : nwWord w = true) : w ∈ NW := List.mem_filter.mpr ⟨List.mem_of_getElem? h, g⟩
theorem gw_good {w : Cond} (h : w ∈ GW) : (w.onTables && w.keeps) = true ∨ ∃ ty, w = .arrayClass ty := good_of_word (List.mem_filter.mp h).2
theorem gw_all : GoodIn GW GW := fun _ h => ⟨h, gw_good h⟩
end
section
theorem dX0_init_0 : decode cX0_init 0 = .ok (.aload_n 0, 1) := by decide +kernel
theorem dX0_init_1 : decode cX0_init 1 = .ok (.invokespecial 3, 3) := by decide +kernel
theorem dX0_init_4 : decode cX0_init 4 = .ok (.aload_n 0, 1) := by decide +kernel
theorem dX0_init_5 : decode cX0_init 5 = .ok (.bipush 9, 2) := by decide +kernel
theorem dX0_init_7 : decode cX0_init 7 = .ok (.newarray .int, 2) := by decide +kernel
theorem dX0_init_9 : decode cX0_init 9 = .ok (.putfield 9, 3) := by decide +kernel
theorem dX0_init_12 : decode cX0_init 12 = .ok (.aload_n 0, 1) := by decide +kernel
theorem dX0_init_13 : decode cX0_init 13 = .ok (.iconst 5, 1) := by decide +kernel
theorem dX0_init_14 : decode cX0_init 14 = .ok (.newarray .int, 2) := by decide +kernel
theorem dX0_init_16 : decode cX0_init 16 = .ok (.putfield 15, 3) := by decide +kernel
theorem dX0_init_19 : decode cX0_init 19 = .ok (.aload_n 0, 1) := by decide +kernel
theorem dX0_init_20 : decode cX0_init 20 = .ok (.iconst 5, 1) := by decide +kernel
theorem dX0_init_21 : decode cX0_init 21 = .ok (.newarray .int, 2) := by decide +kernel
theorem dX0_init_23 : decode cX0_init 23 = .ok (.putfield 18, 3) := by decide +kernel
theorem dX0_init_26 : decode cX0_init 26 = .ok (.aload_n 0, 1) := by decide +kernel
theorem dX0_init_27 : decode cX0_init 27 = .ok (.iconst 5, 1) := by decide +kernel
theorem dX0_init_28 : decode cX0_init 28 = .ok (.newarray .int, 2) := by decide +kernel
theorem dX0_init_30 : decode cX0_init 30 = .ok (.putfield 21, 3) := by decide +kernel
theorem dX0_init_33 : decode cX0_init 33 = .ok (.aload_n 0, 1) := by decide +kernel
theorem dX0_init_34 : decode cX0_init 34 = .ok (.sipush 512, 3) := by decide +kernel
theorem dX0_init_37 : decode cX0_init 37 = .ok (.newarray .int, 2) := by decide +kernel
theorem dX0_init_39 : decode cX0_init 39 = .ok (.putfield 24, 3) := by decide +kernel
theorem dX0_init_42 : decode cX0_init 42 = .ok (.aload_n 0, 1) := by decide +kernel
theorem dX0_init_43 : decode cX0_init 43 = .ok (.sipush 512, 3) := by decide +kernel
theorem dX0_init_46 : decode cX0_init 46 = .ok (.newarray .int, 2) := by decide +kernel
theorem dX0_init_48 : decode cX0_init 48 = .ok (.putfield 27, 3) := by decide +kernel
theorem dX0_init_51 : decode cX0_init 51 = .ok (.aload_n 0, 1) := by decide +kernel
theorem dX0_init_52 : decode cX0_init 52 = .ok (.sipush 512, 3) := by decide +kernel
theorem dX0_init_55 : decode cX0_init 55 = .ok (.newarray .long, 2) := by decide +kernel
theorem dX0_init_57 : decode cX0_init 57 = .ok (.putfield 30, 3) := by decide +kernel
theorem dX0_init_60 : decode cX0_init 60 = .ok (.return_, 1) := by decide +kernel
theorem dX0_add_0 : decode cX0_add 0 = .ok (.aload_n 0, 1) := by decide +kernel
theorem dX0_add_1 : decode cX0_add 1 = .ok (.getfield 34, 3) := by decide +kernel
theorem dX0_add_4 : decode cX0_add 4 = .ok (.istore 4, 2) := by decide +kernel
theorem dX0_add_6 : decode cX0_add 6 = .ok (.aload_n 0, 1) := by decide +kernel
theorem dX0_add_7 : decode cX0_add 7 = .ok (.getfield 15, 3) := by decide +kernel
theorem dX0_add_10 : decode cX0_add 10 = .ok (.iload 4, 2) := by decide +kernel
theorem dX0_add_12 : decode cX0_add 12 = .ok (.iload_n 1, 1) := by decide +kernel
theorem dX0_add_13 : decode cX0_add 13 = .ok (.iastore, 1) := by decide +kernel
theorem dX0_add_14 : decode cX0_add 14 = .ok (.aload_n 0, 1) := by decide +kernel
theorem dX0_add_15 : decode cX0_add 15 = .ok (.getfield 18, 3) := by decide +kernel
theorem dX0_add_18 : decode cX0_add 18 = .ok (.iload 4, 2) := by decide +kernel
theorem dX0_add_20 : decode cX0_add 20 = .ok (.iload_n 2, 1) := by decide +kernel
theorem dX0_add_21 : decode cX0_add 21 = .ok (.iastore, 1) := by decide +kernel
theorem dX0_add_22 : decode cX0_add 22 = .ok (.aload_n 0, 1) := by decide +kernel
theorem dX0_add_23 : decode cX0_add 23 = .ok (.getfield 21, 3) := by decide +kernel
theorem dX0_add_26 : decode cX0_add 26 = .ok (.iload 4, 2) := by decide +kernel
theorem dX0_add_28 : decode cX0_add 28 = .ok (.iload_n 3, 1) := by decide +kernel
theorem dX0_add_29 : decode cX0_add 29 = .ok (.iastore, 1) := by decide +kernel
theorem dX0_add_30 : decode cX0_add 30 = .ok (.aload_n 0, 1) := by decide +kernel
theorem dX0_add_31 : decode cX0_add 31 = .ok (.iload 4, 2) := by decide +kernel
theorem dX0_add_33 : decode cX0_add 33 = .ok (.iconst 1, 1) := by decide +kernel
theorem dX0_add_34 : decode cX0_add 34 = .ok (.iadd, 1) := by decide +kernel
theorem dX0_add_35 : decode cX0_add 35 = .ok (.putfield 34, 3) := by decide +kernel
theorem dX0_add_38 : decode cX0_add 38 = .ok (.iload 4, 2) := by decide +kernel
theorem dX0_add_40 : decode cX0_add 40 = .ok (.ireturn, 1) := by decide +kernel
theorem dX0_pieceLength_0 : decode cX0_pieceLength 0 = .ok (.bipush 100, 2) := by decide +kernel
theorem dX0_pieceLength_2 : decode cX0_pieceLength 2 = .ok (.aload_n 2, 1) := by decide +kernel
theorem dX0_pieceLength_3 : decode cX0_pieceLength 3 = .ok (.iload_n 1, 1) := by decide +kernel
theorem dX0_pieceLength_4 : decode cX0_pieceLength 4 = .ok (.invokevirtual 38, 3) := by decide +kernel
theorem dX0_pieceLength_7 : decode cX0_pieceLength 7 = .ok (.imul, 1) := by decide +kernel
theorem dX0_pieceLength_8 : decode cX0_pieceLength 8 = .ok (.istore 4, 2) := by decide +kernel
theorem dX0_pieceLength_10 : decode cX0_pieceLength 10 = .ok (.iconst 0, 1) := by decide +kernel
theorem dX0_pieceLength_11 : decode cX0_pieceLength 11 = .ok (.istore 5, 2) := by decide +kernel
theorem dX0_pieceLength_13 : decode cX0_pieceLength 13 = .ok (.iload 5, 2) := by decide +kernel
theorem dX0_pieceLength_15 : decode cX0_pieceLength 15 = .ok (.sipush 425, 3) := by decide +kernel
theorem dX0_pieceLength_18 : decode cX0_pieceLength 18 = .ok (.if_icmp .ge 19, 3) := by decide +kernel
theorem dX0_pieceLength_21 : decode cX0_pieceLength 21 = .ok (.iload 5, 2) := by decide +kernel
theorem dX0_pieceLength_23 : decode cX0_pieceLength 23 = .ok (.iload 5, 2) := by decide +kernel
theorem dX0_pieceLength_25 : decode cX0_pieceLength 25 = .ok (.imul, 1) := by decide +kernel
theorem dX0_pieceLength_26 : decode cX0_pieceLength 26 = .ok (.iload 4, 2) := by decide +kernel
theorem dX0_pieceLength_28 : decode cX0_pieceLength 28 = .ok (.if_icmp .ge 9, 3) := by decide +kernel
theorem dX0_pieceLength_31 : decode cX0_pieceLength 31 = .ok (.iinc 5 1, 3) := by decide +kernel
theorem dX0_pieceLength_34 : decode cX0_pieceLength 34 = .ok (.goto (-21), 3) := by decide +kernel
theorem dX0_pieceLength_37 : decode cX0_pieceLength 37 = .ok (.iload 5, 2) := by decide +kernel
theorem dX0_pieceLength_39 : decode cX0_pieceLength 39 = .ok (.iconst 4, 1) := by decide +kernel
theorem dX0_pieceLength_40 : decode cX0_pieceLength 40 = .ok (.aload_n 3, 1) := by decide +kernel
theorem dX0_pieceLength_41 : decode cX0_pieceLength 41 = .ok (.iload_n 1, 1) := by decide +kernel
theorem dX0_pieceLength_42 : decode cX0_pieceLength 42 = .ok (.invokevirtual 44, 3) := by decide +kernel
theorem dX0_pieceLength_45 : decode cX0_pieceLength 45 = .ok (.imul, 1) := by decide +kernel
theorem dX0_pieceLength_46 : decode cX0_pieceLength 46 = .ok (.iadd, 1) := by decide +kernel
theorem dX0_pieceLength_47 : decode cX0_pieceLength 47 = .ok (.ireturn, 1) := by decide +kernel
theorem dX0_find_0 : decode cX0_find 0 = .ok (.aload_n 0, 1) := by decide +kernel
theorem dX0_find_1 : decode cX0_find 1 = .ok (.getfield 49, 3) := by decide +kernel
theorem dX0_find_4 : decode cX0_find 4 = .ok (.ifCond .eq 4, 3) := by decide +kernel
theorem dX0_find_7 : decode cX0_find 7 = .ok (.return_, 1) := by decide +kernel
theorem dX0_find_8 : decode cX0_find 8 = .ok (.iconst 1, 1) := by decide +kernel
theorem dX0_find_9 : decode cX0_find 9 = .ok (.aload_n 1, 1) := by decide +kernel
theorem dX0_find_10 : decode cX0_find 10 = .ok (.getfield 53, 3) := by decide +kernel
theorem dX0_find_13 : decode cX0_find 13 = .ok (.ishl, 1) := by decide +kernel
theorem dX0_find_14 : decode cX0_find 14 = .ok (.istore_n 3, 1) := by decide +kernel
theorem dX0_find_15 : decode cX0_find 15 = .ok (.aload_n 0, 1) := by decide +kernel
theorem dX0_find_16 : decode cX0_find 16 = .ok (.aload_n 1, 1) := by decide +kernel
theorem dX0_find_17 : decode cX0_find 17 = .ok (.aload_n 2, 1) := by decide +kernel
theorem dX0_find_18 : decode cX0_find 18 = .ok (.invokevirtual 56, 3) := by decide +kernel
theorem dX0_find_21 : decode cX0_find 21 = .ok (.iconst 0, 1) := by decide +kernel
theorem dX0_find_22 : decode cX0_find 22 = .ok (.istore 4, 2) := by decide +kernel
theorem dX0_find_24 : decode cX0_find 24 = .ok (.iload 4, 2) := by decide +kernel
theorem dX0_find_26 : decode cX0_find 26 = .ok (.iload_n 3, 1) := by decide +kernel
theorem dX0_find_27 : decode cX0_find 27 = .ok (.if_icmp .ge 28, 3) := by decide +kernel
theorem dX0_find_30 : decode cX0_find 30 = .ok (.aload_n 0, 1) := by decide +kernel
theorem dX0_find_31 : decode cX0_find 31 = .ok (.getfield 30, 3) := by decide +kernel
theorem dX0_find_34 : decode cX0_find 34 = .ok (.iload 4, 2) := by decide +kernel
theorem dX0_find_36 : decode cX0_find 36 = .ok (.iload 4, 2) := by decide +kernel
theorem dX0_find_38 : decode cX0_find 38 = .ok (.ifCond .ne 7, 3) := by decide +kernel
theorem dX0_find_41 : decode cX0_find 41 = .ok (.lconst 0, 1) := by decide +kernel
theorem dX0_find_42 : decode cX0_find 42 = .ok (.goto 6, 3) := by decide +kernel
theorem dX0_find_45 : decode cX0_find 45 = .ok (.ldc2_w 60, 3) := by decide +kernel
theorem dX0_find_48 : decode cX0_find 48 = .ok (.lastore, 1) := by decide +kernel
theorem dX0_find_49 : decode cX0_find 49 = .ok (.iinc 4 1, 3) := by decide +kernel
theorem dX0_find_52 : decode cX0_find 52 = .ok (.goto (-28), 3) := by decide +kernel
theorem dX0_find_55 : decode cX0_find 55 = .ok (.iconst 0, 1) := by decide +kernel
theorem dX0_find_56 : decode cX0_find 56 = .ok (.istore 4, 2) := by decide +kernel
theorem dX0_find_58 : decode cX0_find 58 = .ok (.iload 4, 2) := by decide +kernel
theorem dX0_find_60 : decode cX0_find 60 = .ok (.aload_n 0, 1) := by decide +kernel
theorem dX0_find_61 : decode cX0_find 61 = .ok (.getfield 34, 3) := by decide +kernel
theorem dX0_find_64 : decode cX0_find 64 = .ok (.if_icmp .ge 23, 3) := by decide +kernel
theorem dX0_find_67 : decode cX0_find 67 = .ok (.aload_n 0, 1) := by decide +kernel
theorem dX0_find_68 : decode cX0_find 68 = .ok (.iload 4, 2) := by decide +kernel
theorem dX0_find_70 : decode cX0_find 70 = .ok (.iload_n 3, 1) := by decide +kernel
theorem dX0_find_71 : decode cX0_find 71 = .ok (.aload_n 0, 1) := by decide +kernel
theorem dX0_find_72 : decode cX0_find 72 = .ok (.iload 4, 2) := by decide +kernel
theorem dX0_find_74 : decode cX0_find 74 = .ok (.aload_n 1, 1) := by decide +kernel
theorem dX0_find_75 : decode cX0_find 75 = .ok (.invokevirtual 62, 3) := by decide +kernel
theorem dX0_find_78 : decode cX0_find 78 = .ok (.invokevirtual 66, 3) := by decide +kernel
theorem dX0_find_81 : decode cX0_find 81 = .ok (.iinc 4 1, 3) := by decide +kernel
theorem dX0_find_84 : decode cX0_find 84 = .ok (.goto (-26), 3) := by decide +kernel
theorem dX0_find_87 : decode cX0_find 87 = .ok (.aload_n 0, 1) := by decide +kernel
theorem dX0_find_88 : decode cX0_find 88 = .ok (.aload_n 0, 1) := by decide +kernel
theorem dX0_find_89 : decode cX0_find 89 = .ok (.getfield 30, 3) := by decide +kernel
theorem dX0_find_92 : decode cX0_find 92 = .ok (.iload_n 3, 1) := by decide +kernel
theorem dX0_find_93 : decode cX0_find 93 = .ok (.iconst 1, 1) := by decide +kernel
theorem dX0_find_94 : decode cX0_find 94 = .ok (.isub, 1) := by decide +kernel
theorem dX0_find_95 : decode cX0_find 95 = .ok (.laload, 1) := by decide +kernel
theorem dX0_find_96 : decode cX0_find 96 = .ok (.invokevirtual 70, 3) := by decide +kernel
theorem dX0_find_99 : decode cX0_find 99 = .ok (.aload_n 0, 1) := by decide +kernel
theorem dX0_find_100 : decode cX0_find 100 = .ok (.iconst 1, 1) := by decide +kernel
theorem dX0_find_101 : decode cX0_find 101 = .ok (.putfield 49, 3) := by decide +kernel
theorem dX0_find_104 : decode cX0_find 104 = .ok (.return_, 1) := by decide +kernel
theorem dX0_measure_0 : decode cX0_measure 0 = .ok (.ldc 74, 2) := by decide +kernel
theorem dX0_measure_2 : decode cX0_measure 2 = .ok (.istore_n 3, 1) := by decide +kernel
theorem dX0_measure_3 : decode cX0_measure 3 = .ok (.iconst 0, 1) := by decide +kernel
theorem dX0_measure_4 : decode cX0_measure 4 = .ok (.istore 4, 2) := by decide +kernel
theorem dX0_measure_6 : decode cX0_measure 6 = .ok (.iload 4, 2) := by decide +kernel
theorem dX0_measure_8 : decode cX0_measure 8 = .ok (.aload_n 1, 1) := by decide +kernel
theorem dX0_measure_9 : decode cX0_measure 9 = .ok (.getfield 53, 3) := by decide +kernel
theorem dX0_measure_12 : decode cX0_measure 12 = .ok (.if_icmp .ge 89, 3) := by decide +kernel
theorem dX0_measure_15 : decode cX0_measure 15 = .ok (.aload_n 0, 1) := by decide +kernel
theorem dX0_measure_16 : decode cX0_measure 16 = .ok (.iload 4, 2) := by decide +kernel
theorem dX0_measure_18 : decode cX0_measure 18 = .ok (.aload_n 1, 1) := by decide +kernel
theorem dX0_measure_19 : decode cX0_measure 19 = .ok (.aload_n 2, 1) := by decide +kernel
theorem dX0_measure_20 : decode cX0_measure 20 = .ok (.invokevirtual 75, 3) := by decide +kernel
theorem dX0_measure_23 : decode cX0_measure 23 = .ok (.iconst 1, 1) := by decide +kernel
theorem dX0_measure_24 : decode cX0_measure 24 = .ok (.iadd, 1) := by decide +kernel
theorem dX0_measure_25 : decode cX0_measure 25 = .ok (.istore 5, 2) := by decide +kernel
theorem dX0_measure_27 : decode cX0_measure 27 = .ok (.iconst 1, 1) := by decide +kernel
theorem dX0_measure_28 : decode cX0_measure 28 = .ok (.iload 4, 2) := by decide +kernel
theorem dX0_measure_30 : decode cX0_measure 30 = .ok (.ishl, 1) := by decide +kernel
theorem dX0_measure_31 : decode cX0_measure 31 = .ok (.istore 6, 2) := by decide +kernel
theorem dX0_measure_33 : decode cX0_measure 33 = .ok (.iload 6, 2) := by decide +kernel
theorem dX0_measure_35 : decode cX0_measure 35 = .ok (.istore 7, 2) := by decide +kernel
theorem dX0_measure_37 : decode cX0_measure 37 = .ok (.iload 7, 2) := by decide +kernel
theorem dX0_measure_39 : decode cX0_measure 39 = .ok (.iconst 2, 1) := by decide +kernel
theorem dX0_measure_40 : decode cX0_measure 40 = .ok (.iload 6, 2) := by decide +kernel
theorem dX0_measure_42 : decode cX0_measure 42 = .ok (.imul, 1) := by decide +kernel
theorem dX0_measure_43 : decode cX0_measure 43 = .ok (.if_icmp .ge 48, 3) := by decide +kernel
theorem dX0_measure_46 : decode cX0_measure 46 = .ok (.aload_n 0, 1) := by decide +kernel
theorem dX0_measure_47 : decode cX0_measure 47 = .ok (.getfield 24, 3) := by decide +kernel
theorem dX0_measure_50 : decode cX0_measure 50 = .ok (.iload 7, 2) := by decide +kernel
theorem dX0_measure_52 : decode cX0_measure 52 = .ok (.aload_n 0, 1) := by decide +kernel
theorem dX0_measure_53 : decode cX0_measure 53 = .ok (.getfield 24, 3) := by decide +kernel
theorem dX0_measure_56 : decode cX0_measure 56 = .ok (.iload 7, 2) := by decide +kernel
theorem dX0_measure_58 : decode cX0_measure 58 = .ok (.iload 6, 2) := by decide +kernel
theorem dX0_measure_60 : decode cX0_measure 60 = .ok (.isub, 1) := by decide +kernel
theorem dX0_measure_61 : decode cX0_measure 61 = .ok (.iaload, 1) := by decide +kernel
theorem dX0_measure_62 : decode cX0_measure 62 = .ok (.iload 5, 2) := by decide +kernel
theorem dX0_measure_64 : decode cX0_measure 64 = .ok (.iadd, 1) := by decide +kernel
theorem dX0_measure_65 : decode cX0_measure 65 = .ok (.iastore, 1) := by decide +kernel
theorem dX0_measure_66 : decode cX0_measure 66 = .ok (.aload_n 0, 1) := by decide +kernel
theorem dX0_measure_67 : decode cX0_measure 67 = .ok (.getfield 27, 3) := by decide +kernel
theorem dX0_measure_70 : decode cX0_measure 70 = .ok (.iload 7, 2) := by decide +kernel
theorem dX0_measure_72 : decode cX0_measure 72 = .ok (.aload_n 0, 1) := by decide +kernel
theorem dX0_measure_73 : decode cX0_measure 73 = .ok (.getfield 27, 3) := by decide +kernel
theorem dX0_measure_76 : decode cX0_measure 76 = .ok (.iload 7, 2) := by decide +kernel
theorem dX0_measure_78 : decode cX0_measure 78 = .ok (.iload 6, 2) := by decide +kernel
theorem dX0_measure_80 : decode cX0_measure 80 = .ok (.isub, 1) := by decide +kernel
theorem dX0_measure_81 : decode cX0_measure 81 = .ok (.iaload, 1) := by decide +kernel
theorem dX0_measure_82 : decode cX0_measure 82 = .ok (.iload_n 3, 1) := by decide +kernel
theorem dX0_measure_83 : decode cX0_measure 83 = .ok (.iadd, 1) := by decide +kernel
theorem dX0_measure_84 : decode cX0_measure 84 = .ok (.iastore, 1) := by decide +kernel
theorem dX0_measure_85 : decode cX0_measure 85 = .ok (.iinc 7 1, 3) := by decide +kernel
theorem dX0_measure_88 : decode cX0_measure 88 = .ok (.goto (-51), 3) := by decide +kernel
theorem dX0_measure_91 : decode cX0_measure 91 = .ok (.iload_n 3, 1) := by decide +kernel
theorem dX0_measure_92 : decode cX0_measure 92 = .ok (.iconst 5, 1) := by decide +kernel
theorem dX0_measure_93 : decode cX0_measure 93 = .ok (.idiv, 1) := by decide +kernel
theorem dX0_measure_94 : decode cX0_measure 94 = .ok (.istore_n 3, 1) := by decide +kernel
theorem dX0_measure_95 : decode cX0_measure 95 = .ok (.iinc 4 1, 3) := by decide +kernel
theorem dX0_measure_98 : decode cX0_measure 98 = .ok (.goto (-92), 3) := by decide +kernel
theorem dX0_measure_101 : decode cX0_measure 101 = .ok (.return_, 1) := by decide +kernel
theorem dX0_fitting_0 : decode cX0_fitting 0 = .ok (.iconst 0, 1) := by decide +kernel
theorem dX0_fitting_1 : decode cX0_fitting 1 = .ok (.istore_n 3, 1) := by decide +kernel
theorem dX0_fitting_2 : decode cX0_fitting 2 = .ok (.iconst 0, 1) := by decide +kernel
theorem dX0_fitting_3 : decode cX0_fitting 3 = .ok (.istore 4, 2) := by decide +kernel
theorem dX0_fitting_5 : decode cX0_fitting 5 = .ok (.iload 4, 2) := by decide +kernel
theorem dX0_fitting_7 : decode cX0_fitting 7 = .ok (.aload_n 2, 1) := by decide +kernel
theorem dX0_fitting_8 : decode cX0_fitting 8 = .ok (.getfield 53, 3) := by decide +kernel
theorem dX0_fitting_11 : decode cX0_fitting 11 = .ok (.if_icmp .ge 48, 3) := by decide +kernel
theorem dX0_fitting_14 : decode cX0_fitting 14 = .ok (.aload_n 2, 1) := by decide +kernel
theorem dX0_fitting_15 : decode cX0_fitting 15 = .ok (.getfield 79, 3) := by decide +kernel
theorem dX0_fitting_18 : decode cX0_fitting 18 = .ok (.iload 4, 2) := by decide +kernel
theorem dX0_fitting_20 : decode cX0_fitting 20 = .ok (.iaload, 1) := by decide +kernel
theorem dX0_fitting_21 : decode cX0_fitting 21 = .ok (.aload_n 0, 1) := by decide +kernel
theorem dX0_fitting_22 : decode cX0_fitting 22 = .ok (.getfield 18, 3) := by decide +kernel
theorem dX0_fitting_25 : decode cX0_fitting 25 = .ok (.iload_n 1, 1) := by decide +kernel
theorem dX0_fitting_26 : decode cX0_fitting 26 = .ok (.iaload, 1) := by decide +kernel
theorem dX0_fitting_27 : decode cX0_fitting 27 = .ok (.if_icmp .gt 26, 3) := by decide +kernel
theorem dX0_fitting_30 : decode cX0_fitting 30 = .ok (.aload_n 2, 1) := by decide +kernel
theorem dX0_fitting_31 : decode cX0_fitting 31 = .ok (.getfield 80, 3) := by decide +kernel
theorem dX0_fitting_34 : decode cX0_fitting 34 = .ok (.iload 4, 2) := by decide +kernel
theorem dX0_fitting_36 : decode cX0_fitting 36 = .ok (.iaload, 1) := by decide +kernel
theorem dX0_fitting_37 : decode cX0_fitting 37 = .ok (.aload_n 0, 1) := by decide +kernel
theorem dX0_fitting_38 : decode cX0_fitting 38 = .ok (.getfield 21, 3) := by decide +kernel
theorem dX0_fitting_41 : decode cX0_fitting 41 = .ok (.iload_n 1, 1) := by decide +kernel
theorem dX0_fitting_42 : decode cX0_fitting 42 = .ok (.iaload, 1) := by decide +kernel
theorem dX0_fitting_43 : decode cX0_fitting 43 = .ok (.if_icmp .gt 10, 3) := by decide +kernel
theorem dX0_fitting_46 : decode cX0_fitting 46 = .ok (.iload_n 3, 1) := by decide +kernel
theorem dX0_fitting_47 : decode cX0_fitting 47 = .ok (.iconst 1, 1) := by decide +kernel
theorem dX0_fitting_48 : decode cX0_fitting 48 = .ok (.iload 4, 2) := by decide +kernel
theorem dX0_fitting_50 : decode cX0_fitting 50 = .ok (.ishl, 1) := by decide +kernel
theorem dX0_fitting_51 : decode cX0_fitting 51 = .ok (.ior, 1) := by decide +kernel
theorem dX0_fitting_52 : decode cX0_fitting 52 = .ok (.istore_n 3, 1) := by decide +kernel
theorem dX0_fitting_53 : decode cX0_fitting 53 = .ok (.iinc 4 1, 3) := by decide +kernel
theorem dX0_fitting_56 : decode cX0_fitting 56 = .ok (.goto (-51), 3) := by decide +kernel
theorem dX0_fitting_59 : decode cX0_fitting 59 = .ok (.iload_n 3, 1) := by decide +kernel
theorem dX0_fitting_60 : decode cX0_fitting 60 = .ok (.ireturn, 1) := by decide +kernel
theorem dX0_offer_0 : decode cX0_offer 0 = .ok (.iload_n 2, 1) := by decide +kernel
theorem dX0_offer_1 : decode cX0_offer 1 = .ok (.iconst 1, 1) := by decide +kernel
theorem dX0_offer_2 : decode cX0_offer 2 = .ok (.isub, 1) := by decide +kernel
theorem dX0_offer_3 : decode cX0_offer 3 = .ok (.istore 4, 2) := by decide +kernel
theorem dX0_offer_5 : decode cX0_offer 5 = .ok (.iload 4, 2) := by decide +kernel
theorem dX0_offer_7 : decode cX0_offer 7 = .ok (.ifCond .le 123, 3) := by decide +kernel
theorem dX0_offer_10 : decode cX0_offer 10 = .ok (.iload 4, 2) := by decide +kernel
theorem dX0_offer_12 : decode cX0_offer 12 = .ok (.iload_n 3, 1) := by decide +kernel
theorem dX0_offer_13 : decode cX0_offer 13 = .ok (.iand, 1) := by decide +kernel
theorem dX0_offer_14 : decode cX0_offer 14 = .ok (.istore 5, 2) := by decide +kernel
theorem dX0_offer_16 : decode cX0_offer 16 = .ok (.iload 5, 2) := by decide +kernel
theorem dX0_offer_18 : decode cX0_offer 18 = .ok (.istore 6, 2) := by decide +kernel
theorem dX0_offer_20 : decode cX0_offer 20 = .ok (.iload 6, 2) := by decide +kernel
theorem dX0_offer_22 : decode cX0_offer 22 = .ok (.ifCond .le 102, 3) := by decide +kernel
theorem dX0_offer_25 : decode cX0_offer 25 = .ok (.aload_n 0, 1) := by decide +kernel
theorem dX0_offer_26 : decode cX0_offer 26 = .ok (.getfield 30, 3) := by decide +kernel
theorem dX0_offer_29 : decode cX0_offer 29 = .ok (.iload 4, 2) := by decide +kernel
theorem dX0_offer_31 : decode cX0_offer 31 = .ok (.iload 6, 2) := by decide +kernel
theorem dX0_offer_33 : decode cX0_offer 33 = .ok (.ixor, 1) := by decide +kernel
theorem dX0_offer_34 : decode cX0_offer 34 = .ok (.laload, 1) := by decide +kernel
theorem dX0_offer_35 : decode cX0_offer 35 = .ok (.lstore 7, 2) := by decide +kernel
theorem dX0_offer_37 : decode cX0_offer 37 = .ok (.aload_n 0, 1) := by decide +kernel
theorem dX0_offer_38 : decode cX0_offer 38 = .ok (.getfield 24, 3) := by decide +kernel
theorem dX0_offer_41 : decode cX0_offer 41 = .ok (.iload 6, 2) := by decide +kernel
theorem dX0_offer_43 : decode cX0_offer 43 = .ok (.iaload, 1) := by decide +kernel
theorem dX0_offer_44 : decode cX0_offer 44 = .ok (.aload_n 0, 1) := by decide +kernel
theorem dX0_offer_45 : decode cX0_offer 45 = .ok (.getfield 15, 3) := by decide +kernel
theorem dX0_offer_48 : decode cX0_offer 48 = .ok (.iload_n 1, 1) := by decide +kernel
theorem dX0_offer_49 : decode cX0_offer 49 = .ok (.iaload, 1) := by decide +kernel
theorem dX0_offer_50 : decode cX0_offer 50 = .ok (.if_icmp .gt 62, 3) := by decide +kernel
theorem dX0_offer_53 : decode cX0_offer 53 = .ok (.lload 7, 2) := by decide +kernel
theorem dX0_offer_55 : decode cX0_offer 55 = .ok (.ldc2_w 60, 3) := by decide +kernel
theorem dX0_offer_58 : decode cX0_offer 58 = .ok (.lcmp, 1) := by decide +kernel
theorem dX0_offer_59 : decode cX0_offer 59 = .ok (.ifCond .ne 6, 3) := by decide +kernel
theorem dX0_offer_62 : decode cX0_offer 62 = .ok (.goto 50, 3) := by decide +kernel
theorem dX0_offer_65 : decode cX0_offer 65 = .ok (.lload 7, 2) := by decide +kernel
theorem dX0_offer_67 : decode cX0_offer 67 = .ok (.aload_n 0, 1) := by decide +kernel
theorem dX0_offer_68 : decode cX0_offer 68 = .ok (.getfield 15, 3) := by decide +kernel
theorem dX0_offer_71 : decode cX0_offer 71 = .ok (.iload_n 1, 1) := by decide +kernel
theorem dX0_offer_72 : decode cX0_offer 72 = .ok (.iaload, 1) := by decide +kernel
theorem dX0_offer_73 : decode cX0_offer 73 = .ok (.i2l, 1) := by decide +kernel
theorem dX0_offer_74 : decode cX0_offer 74 = .ok (.ldc2_w 81, 3) := by decide +kernel
theorem dX0_offer_77 : decode cX0_offer 77 = .ok (.lmul, 1) := by decide +kernel
theorem dX0_offer_78 : decode cX0_offer 78 = .ok (.ladd, 1) := by decide +kernel
theorem dX0_offer_79 : decode cX0_offer 79 = .ok (.iload_n 1, 1) := by decide +kernel
theorem dX0_offer_80 : decode cX0_offer 80 = .ok (.i2l, 1) := by decide +kernel
theorem dX0_offer_81 : decode cX0_offer 81 = .ok (.aload_n 0, 1) := by decide +kernel
theorem dX0_offer_82 : decode cX0_offer 82 = .ok (.getfield 27, 3) := by decide +kernel
theorem dX0_offer_85 : decode cX0_offer 85 = .ok (.iload 6, 2) := by decide +kernel
theorem dX0_offer_87 : decode cX0_offer 87 = .ok (.iaload, 1) := by decide +kernel
theorem dX0_offer_88 : decode cX0_offer 88 = .ok (.i2l, 1) := by decide +kernel
theorem dX0_offer_89 : decode cX0_offer 89 = .ok (.lmul, 1) := by decide +kernel
theorem dX0_offer_90 : decode cX0_offer 90 = .ok (.ladd, 1) := by decide +kernel
theorem dX0_offer_91 : decode cX0_offer 91 = .ok (.lstore 9, 2) := by decide +kernel
theorem dX0_offer_93 : decode cX0_offer 93 = .ok (.aload_n 0, 1) := by decide +kernel
theorem dX0_offer_94 : decode cX0_offer 94 = .ok (.getfield 30, 3) := by decide +kernel
theorem dX0_offer_97 : decode cX0_offer 97 = .ok (.iload 4, 2) := by decide +kernel
theorem dX0_offer_99 : decode cX0_offer 99 = .ok (.aload_n 0, 1) := by decide +kernel
theorem dX0_offer_100 : decode cX0_offer 100 = .ok (.getfield 30, 3) := by decide +kernel
theorem dX0_offer_103 : decode cX0_offer 103 = .ok (.iload 4, 2) := by decide +kernel
theorem dX0_offer_105 : decode cX0_offer 105 = .ok (.laload, 1) := by decide +kernel
theorem dX0_offer_106 : decode cX0_offer 106 = .ok (.lload 9, 2) := by decide +kernel
theorem dX0_offer_108 : decode cX0_offer 108 = .ok (.invokestatic 83, 3) := by decide +kernel
theorem dX0_offer_111 : decode cX0_offer 111 = .ok (.lastore, 1) := by decide +kernel
theorem dX0_offer_112 : decode cX0_offer 112 = .ok (.iload 6, 2) := by decide +kernel
theorem dX0_offer_114 : decode cX0_offer 114 = .ok (.iconst 1, 1) := by decide +kernel
theorem dX0_offer_115 : decode cX0_offer 115 = .ok (.isub, 1) := by decide +kernel
theorem dX0_offer_116 : decode cX0_offer 116 = .ok (.iload 5, 2) := by decide +kernel
theorem dX0_offer_118 : decode cX0_offer 118 = .ok (.iand, 1) := by decide +kernel
theorem dX0_offer_119 : decode cX0_offer 119 = .ok (.istore 6, 2) := by decide +kernel
theorem dX0_offer_121 : decode cX0_offer 121 = .ok (.goto (-101), 3) := by decide +kernel
theorem dX0_offer_124 : decode cX0_offer 124 = .ok (.iinc 4 (-1), 3) := by decide +kernel
theorem dX0_offer_127 : decode cX0_offer 127 = .ok (.goto (-122), 3) := by decide +kernel
theorem dX0_offer_130 : decode cX0_offer 130 = .ok (.return_, 1) := by decide +kernel
theorem dX0_choose_0 : decode cX0_choose 0 = .ok (.aload_n 0, 1) := by decide +kernel
theorem dX0_choose_1 : decode cX0_choose 1 = .ok (.lload_n 1, 1) := by decide +kernel
theorem dX0_choose_2 : decode cX0_choose 2 = .ok (.ldc2_w 60, 3) := by decide +kernel
theorem dX0_choose_5 : decode cX0_choose 5 = .ok (.lcmp, 1) := by decide +kernel
theorem dX0_choose_6 : decode cX0_choose 6 = .ok (.ifCond .eq 7, 3) := by decide +kernel
theorem dX0_choose_9 : decode cX0_choose 9 = .ok (.iconst 1, 1) := by decide +kernel
theorem dX0_choose_10 : decode cX0_choose 10 = .ok (.goto 4, 3) := by decide +kernel
theorem dX0_choose_13 : decode cX0_choose 13 = .ok (.iconst 0, 1) := by decide +kernel
theorem dX0_choose_14 : decode cX0_choose 14 = .ok (.putfield 89, 3) := by decide +kernel
theorem dX0_choose_17 : decode cX0_choose 17 = .ok (.aload_n 0, 1) := by decide +kernel
theorem dX0_choose_18 : decode cX0_choose 18 = .ok (.getfield 89, 3) := by decide +kernel
theorem dX0_choose_21 : decode cX0_choose 21 = .ok (.ifCond .ne 4, 3) := by decide +kernel
theorem dX0_choose_24 : decode cX0_choose 24 = .ok (.return_, 1) := by decide +kernel
theorem dX0_choose_25 : decode cX0_choose 25 = .ok (.aload_n 0, 1) := by decide +kernel
theorem dX0_choose_26 : decode cX0_choose 26 = .ok (.lload_n 1, 1) := by decide +kernel
theorem dX0_choose_27 : decode cX0_choose 27 = .ok (.ldc2_w 81, 3) := by decide +kernel
theorem dX0_choose_30 : decode cX0_choose 30 = .ok (.ldiv, 1) := by decide +kernel
theorem dX0_choose_31 : decode cX0_choose 31 = .ok (.l2i, 1) := by decide +kernel
theorem dX0_choose_32 : decode cX0_choose 32 = .ok (.putfield 92, 3) := by decide +kernel
theorem dX0_choose_35 : decode cX0_choose 35 = .ok (.lload_n 1, 1) := by decide +kernel
theorem dX0_choose_36 : decode cX0_choose 36 = .ok (.ldc2_w 81, 3) := by decide +kernel
theorem dX0_choose_39 : decode cX0_choose 39 = .ok (.lrem, 1) := by decide +kernel
theorem dX0_choose_40 : decode cX0_choose 40 = .ok (.l2i, 1) := by decide +kernel
theorem dX0_choose_41 : decode cX0_choose 41 = .ok (.istore_n 3, 1) := by decide +kernel
theorem dX0_choose_42 : decode cX0_choose 42 = .ok (.bipush 8, 2) := by decide +kernel
theorem dX0_choose_44 : decode cX0_choose 44 = .ok (.istore 4, 2) := by decide +kernel
theorem dX0_choose_46 : decode cX0_choose 46 = .ok (.iload 4, 2) := by decide +kernel
theorem dX0_choose_48 : decode cX0_choose 48 = .ok (.ifCond .lt 23, 3) := by decide +kernel
theorem dX0_choose_51 : decode cX0_choose 51 = .ok (.aload_n 0, 1) := by decide +kernel
theorem dX0_choose_52 : decode cX0_choose 52 = .ok (.getfield 9, 3) := by decide +kernel
theorem dX0_choose_55 : decode cX0_choose 55 = .ok (.iload 4, 2) := by decide +kernel
theorem dX0_choose_57 : decode cX0_choose 57 = .ok (.iload_n 3, 1) := by decide +kernel
theorem dX0_choose_58 : decode cX0_choose 58 = .ok (.iconst 5, 1) := by decide +kernel
theorem dX0_choose_59 : decode cX0_choose 59 = .ok (.irem, 1) := by decide +kernel
theorem dX0_choose_60 : decode cX0_choose 60 = .ok (.iastore, 1) := by decide +kernel
theorem dX0_choose_61 : decode cX0_choose 61 = .ok (.iload_n 3, 1) := by decide +kernel
theorem dX0_choose_62 : decode cX0_choose 62 = .ok (.iconst 5, 1) := by decide +kernel
theorem dX0_choose_63 : decode cX0_choose 63 = .ok (.idiv, 1) := by decide +kernel
theorem dX0_choose_64 : decode cX0_choose 64 = .ok (.istore_n 3, 1) := by decide +kernel
theorem dX0_choose_65 : decode cX0_choose 65 = .ok (.iinc 4 (-1), 3) := by decide +kernel
theorem dX0_choose_68 : decode cX0_choose 68 = .ok (.goto (-22), 3) := by decide +kernel
theorem dX0_choose_71 : decode cX0_choose 71 = .ok (.return_, 1) := by decide +kernel
theorem dX0_leftOf_0 : decode cX0_leftOf 0 = .ok (.iconst 0, 1) := by decide +kernel
theorem dX0_leftOf_1 : decode cX0_leftOf 1 = .ok (.istore_n 3, 1) := by decide +kernel
theorem dX0_leftOf_2 : decode cX0_leftOf 2 = .ok (.iconst 0, 1) := by decide +kernel
theorem dX0_leftOf_3 : decode cX0_leftOf 3 = .ok (.istore 4, 2) := by decide +kernel
theorem dX0_leftOf_5 : decode cX0_leftOf 5 = .ok (.iload 4, 2) := by decide +kernel
theorem dX0_leftOf_7 : decode cX0_leftOf 7 = .ok (.iload_n 2, 1) := by decide +kernel
theorem dX0_leftOf_8 : decode cX0_leftOf 8 = .ok (.if_icmp .ge 31, 3) := by decide +kernel
theorem dX0_leftOf_11 : decode cX0_leftOf 11 = .ok (.iload_n 3, 1) := by decide +kernel
theorem dX0_leftOf_12 : decode cX0_leftOf 12 = .ok (.aload_n 0, 1) := by decide +kernel
theorem dX0_leftOf_13 : decode cX0_leftOf 13 = .ok (.getfield 9, 3) := by decide +kernel
theorem dX0_leftOf_16 : decode cX0_leftOf 16 = .ok (.iload 4, 2) := by decide +kernel
theorem dX0_leftOf_18 : decode cX0_leftOf 18 = .ok (.iaload, 1) := by decide +kernel
theorem dX0_leftOf_19 : decode cX0_leftOf 19 = .ok (.iload_n 1, 1) := by decide +kernel
theorem dX0_leftOf_20 : decode cX0_leftOf 20 = .ok (.if_icmp .ne 10, 3) := by decide +kernel
theorem dX0_leftOf_23 : decode cX0_leftOf 23 = .ok (.iconst 1, 1) := by decide +kernel
theorem dX0_leftOf_24 : decode cX0_leftOf 24 = .ok (.iload 4, 2) := by decide +kernel
theorem dX0_leftOf_26 : decode cX0_leftOf 26 = .ok (.ishl, 1) := by decide +kernel
theorem dX0_leftOf_27 : decode cX0_leftOf 27 = .ok (.goto 4, 3) := by decide +kernel
theorem dX0_leftOf_30 : decode cX0_leftOf 30 = .ok (.iconst 0, 1) := by decide +kernel
theorem dX0_leftOf_31 : decode cX0_leftOf 31 = .ok (.ior, 1) := by decide +kernel
theorem dX0_leftOf_32 : decode cX0_leftOf 32 = .ok (.istore_n 3, 1) := by decide +kernel
theorem dX0_leftOf_33 : decode cX0_leftOf 33 = .ok (.iinc 4 1, 3) := by decide +kernel
theorem dX0_leftOf_36 : decode cX0_leftOf 36 = .ok (.goto (-31), 3) := by decide +kernel
theorem dX0_leftOf_39 : decode cX0_leftOf 39 = .ok (.aload_n 0, 1) := by decide +kernel
theorem dX0_leftOf_40 : decode cX0_leftOf 40 = .ok (.getfield 15, 3) := by decide +kernel
theorem dX0_leftOf_43 : decode cX0_leftOf 43 = .ok (.iload_n 1, 1) := by decide +kernel
theorem dX0_leftOf_44 : decode cX0_leftOf 44 = .ok (.iaload, 1) := by decide +kernel
theorem dX0_leftOf_45 : decode cX0_leftOf 45 = .ok (.aload_n 0, 1) := by decide +kernel
theorem dX0_leftOf_46 : decode cX0_leftOf 46 = .ok (.getfield 24, 3) := by decide +kernel
theorem dX0_leftOf_49 : decode cX0_leftOf 49 = .ok (.iload_n 3, 1) := by decide +kernel
theorem dX0_leftOf_50 : decode cX0_leftOf 50 = .ok (.iaload, 1) := by decide +kernel
theorem dX0_leftOf_51 : decode cX0_leftOf 51 = .ok (.isub, 1) := by decide +kernel
theorem dX0_leftOf_52 : decode cX0_leftOf 52 = .ok (.ireturn, 1) := by decide +kernel
theorem dX1_init_0 : decode cX1_init 0 = .ok (.aload_n 0, 1) := by decide +kernel
theorem dX1_init_1 : decode cX1_init 1 = .ok (.invokespecial 3, 3) := by decide +kernel
theorem dX1_init_4 : decode cX1_init 4 = .ok (.aload_n 0, 1) := by decide +kernel
theorem dX1_init_5 : decode cX1_init 5 = .ok (.bipush 25, 2) := by decide +kernel
theorem dX1_init_7 : decode cX1_init 7 = .ok (.newarray .long, 2) := by decide +kernel
theorem dX1_init_9 : decode cX1_init 9 = .ok (.putfield 11, 3) := by decide +kernel
theorem dX1_init_12 : decode cX1_init 12 = .ok (.aload_n 0, 1) := by decide +kernel
theorem dX1_init_13 : decode cX1_init 13 = .ok (.bipush 25, 2) := by decide +kernel
theorem dX1_init_15 : decode cX1_init 15 = .ok (.newarray .long, 2) := by decide +kernel
theorem dX1_init_17 : decode cX1_init 17 = .ok (.putfield 15, 3) := by decide +kernel
theorem dX1_init_20 : decode cX1_init 20 = .ok (.aload_n 0, 1) := by decide +kernel
theorem dX1_init_21 : decode cX1_init 21 = .ok (.bipush 9, 2) := by decide +kernel
theorem dX1_init_23 : decode cX1_init 23 = .ok (.newarray .long, 2) := by decide +kernel
theorem dX1_init_25 : decode cX1_init 25 = .ok (.putfield 18, 3) := by decide +kernel
theorem dX1_init_28 : decode cX1_init 28 = .ok (.aload_n 0, 1) := by decide +kernel
theorem dX1_init_29 : decode cX1_init 29 = .ok (.bipush 81, 2) := by decide +kernel
theorem dX1_init_31 : decode cX1_init 31 = .ok (.newarray .int, 2) := by decide +kernel
theorem dX1_init_33 : decode cX1_init 33 = .ok (.putfield 21, 3) := by decide +kernel
theorem dX1_init_36 : decode cX1_init 36 = .ok (.aload_n 0, 1) := by decide +kernel
theorem dX1_init_37 : decode cX1_init 37 = .ok (.bipush 9, 2) := by decide +kernel
theorem dX1_init_39 : decode cX1_init 39 = .ok (.newarray .int, 2) := by decide +kernel
theorem dX1_init_41 : decode cX1_init 41 = .ok (.putfield 25, 3) := by decide +kernel
theorem dX1_init_44 : decode cX1_init 44 = .ok (.aload_n 0, 1) := by decide +kernel
theorem dX1_init_45 : decode cX1_init 45 = .ok (.bipush 9, 2) := by decide +kernel
theorem dX1_init_47 : decode cX1_init 47 = .ok (.newarray .int, 2) := by decide +kernel
theorem dX1_init_49 : decode cX1_init 49 = .ok (.putfield 28, 3) := by decide +kernel
theorem dX1_init_52 : decode cX1_init 52 = .ok (.aload_n 0, 1) := by decide +kernel
theorem dX1_init_53 : decode cX1_init 53 = .ok (.sipush 512, 3) := by decide +kernel
theorem dX1_init_56 : decode cX1_init 56 = .ok (.newarray .long, 2) := by decide +kernel
theorem dX1_init_58 : decode cX1_init 58 = .ok (.putfield 31, 3) := by decide +kernel
theorem dX1_init_61 : decode cX1_init 61 = .ok (.aload_n 0, 1) := by decide +kernel
theorem dX1_init_62 : decode cX1_init 62 = .ok (.sipush 512, 3) := by decide +kernel
theorem dX1_init_65 : decode cX1_init 65 = .ok (.newarray .long, 2) := by decide +kernel
theorem dX1_init_67 : decode cX1_init 67 = .ok (.putfield 34, 3) := by decide +kernel
theorem dX1_init_70 : decode cX1_init 70 = .ok (.aload_n 0, 1) := by decide +kernel
theorem dX1_init_71 : decode cX1_init 71 = .ok (.sipush 512, 3) := by decide +kernel
theorem dX1_init_74 : decode cX1_init 74 = .ok (.newarray .long, 2) := by decide +kernel
theorem dX1_init_76 : decode cX1_init 76 = .ok (.putfield 37, 3) := by decide +kernel
theorem dX1_init_79 : decode cX1_init 79 = .ok (.aload_n 0, 1) := by decide +kernel
theorem dX1_init_80 : decode cX1_init 80 = .ok (.new 40, 3) := by decide +kernel
theorem dX1_init_83 : decode cX1_init 83 = .ok (.dup, 1) := by decide +kernel
theorem dX1_init_84 : decode cX1_init 84 = .ok (.invokespecial 42, 3) := by decide +kernel
theorem dX1_init_87 : decode cX1_init 87 = .ok (.putfield 43, 3) := by decide +kernel
theorem dX1_init_90 : decode cX1_init 90 = .ok (.aload_n 0, 1) := by decide +kernel
theorem dX1_init_91 : decode cX1_init 91 = .ok (.new 40, 3) := by decide +kernel
theorem dX1_init_94 : decode cX1_init 94 = .ok (.dup, 1) := by decide +kernel
theorem dX1_init_95 : decode cX1_init 95 = .ok (.invokespecial 42, 3) := by decide +kernel
theorem dX1_init_98 : decode cX1_init 98 = .ok (.putfield 47, 3) := by decide +kernel
theorem dX1_init_101 : decode cX1_init 101 = .ok (.aload_n 0, 1) := by decide +kernel
theorem dX1_init_102 : decode cX1_init 102 = .ok (.new 40, 3) := by decide +kernel
theorem dX1_init_105 : decode cX1_init 105 = .ok (.dup, 1) := by decide +kernel
theorem dX1_init_106 : decode cX1_init 106 = .ok (.invokespecial 42, 3) := by decide +kernel
theorem dX1_init_109 : decode cX1_init 109 = .ok (.putfield 50, 3) := by decide +kernel
theorem dX1_init_112 : decode cX1_init 112 = .ok (.aload_n 0, 1) := by decide +kernel
theorem dX1_init_113 : decode cX1_init 113 = .ok (.new 40, 3) := by decide +kernel
theorem dX1_init_116 : decode cX1_init 116 = .ok (.dup, 1) := by decide +kernel
theorem dX1_init_117 : decode cX1_init 117 = .ok (.invokespecial 42, 3) := by decide +kernel
theorem dX1_init_120 : decode cX1_init 120 = .ok (.putfield 53, 3) := by decide +kernel
theorem dX1_init_123 : decode cX1_init 123 = .ok (.aload_n 0, 1) := by decide +kernel
theorem dX1_init_124 : decode cX1_init 124 = .ok (.new 40, 3) := by decide +kernel
theorem dX1_init_127 : decode cX1_init 127 = .ok (.dup, 1) := by decide +kernel
theorem dX1_init_128 : decode cX1_init 128 = .ok (.invokespecial 42, 3) := by decide +kernel
theorem dX1_init_131 : decode cX1_init 131 = .ok (.putfield 56, 3) := by decide +kernel
theorem dX1_init_134 : decode cX1_init 134 = .ok (.return_, 1) := by decide +kernel
theorem dX1_bearingIndex_0 : decode cX1_bearingIndex 0 = .ok (.bipush 9, 2) := by decide +kernel
theorem dX1_bearingIndex_2 : decode cX1_bearingIndex 2 = .ok (.iconst 2, 1) := by decide +kernel
theorem dX1_bearingIndex_3 : decode cX1_bearingIndex 3 = .ok (.iload_n 1, 1) := by decide +kernel
theorem dX1_bearingIndex_4 : decode cX1_bearingIndex 4 = .ok (.imul, 1) := by decide +kernel
theorem dX1_bearingIndex_5 : decode cX1_bearingIndex 5 = .ok (.iadd, 1) := by decide +kernel
theorem dX1_bearingIndex_6 : decode cX1_bearingIndex 6 = .ok (.iload_n 2, 1) := by decide +kernel
theorem dX1_bearingIndex_7 : decode cX1_bearingIndex 7 = .ok (.iadd, 1) := by decide +kernel
theorem dX1_bearingIndex_8 : decode cX1_bearingIndex 8 = .ok (.ireturn, 1) := by decide +kernel
theorem dX1_find_0 : decode cX1_find 0 = .ok (.aload_n 0, 1) := by decide +kernel
theorem dX1_find_1 : decode cX1_find 1 = .ok (.getfield 59, 3) := by decide +kernel
theorem dX1_find_4 : decode cX1_find 4 = .ok (.ifCond .eq 4, 3) := by decide +kernel
theorem dX1_find_7 : decode cX1_find 7 = .ok (.return_, 1) := by decide +kernel
theorem dX1_find_8 : decode cX1_find 8 = .ok (.aload_n 0, 1) := by decide +kernel
theorem dX1_find_9 : decode cX1_find 9 = .ok (.aload_n 0, 1) := by decide +kernel
theorem dX1_find_10 : decode cX1_find 10 = .ok (.aload_n 1, 1) := by decide +kernel
theorem dX1_find_11 : decode cX1_find 11 = .ok (.invokevirtual 63, 3) := by decide +kernel
theorem dX1_find_14 : decode cX1_find 14 = .ok (.putfield 67, 3) := by decide +kernel
theorem dX1_find_17 : decode cX1_find 17 = .ok (.aload_n 0, 1) := by decide +kernel
theorem dX1_find_18 : decode cX1_find 18 = .ok (.getfield 67, 3) := by decide +kernel
theorem dX1_find_21 : decode cX1_find 21 = .ok (.bipush 46, 2) := by decide +kernel
theorem dX1_find_23 : decode cX1_find 23 = .ok (.if_icmp .ne 13, 3) := by decide +kernel
theorem dX1_find_26 : decode cX1_find 26 = .ok (.aload_n 0, 1) := by decide +kernel
theorem dX1_find_27 : decode cX1_find 27 = .ok (.aload_n 1, 1) := by decide +kernel
theorem dX1_find_28 : decode cX1_find 28 = .ok (.invokevirtual 71, 3) := by decide +kernel
theorem dX1_find_31 : decode cX1_find 31 = .ok (.aload_n 0, 1) := by decide +kernel
theorem dX1_find_32 : decode cX1_find 32 = .ok (.aload_n 1, 1) := by decide +kernel
theorem dX1_find_33 : decode cX1_find 33 = .ok (.invokevirtual 75, 3) := by decide +kernel
theorem dX1_find_36 : decode cX1_find 36 = .ok (.aload_n 0, 1) := by decide +kernel
theorem dX1_find_37 : decode cX1_find 37 = .ok (.iconst 1, 1) := by decide +kernel
theorem dX1_find_38 : decode cX1_find 38 = .ok (.putfield 59, 3) := by decide +kernel
theorem dX1_find_41 : decode cX1_find 41 = .ok (.return_, 1) := by decide +kernel
theorem dX1_findPulls_0 : decode cX1_findPulls 0 = .ok (.iconst 0, 1) := by decide +kernel
theorem dX1_findPulls_1 : decode cX1_findPulls 1 = .ok (.istore_n 2, 1) := by decide +kernel
theorem dX1_findPulls_2 : decode cX1_findPulls 2 = .ok (.iconst 0, 1) := by decide +kernel
theorem dX1_findPulls_3 : decode cX1_findPulls 3 = .ok (.istore_n 3, 1) := by decide +kernel
theorem dX1_findPulls_4 : decode cX1_findPulls 4 = .ok (.iload_n 3, 1) := by decide +kernel
theorem dX1_findPulls_5 : decode cX1_findPulls 5 = .ok (.aload_n 1, 1) := by decide +kernel
theorem dX1_findPulls_6 : decode cX1_findPulls 6 = .ok (.getfield 78, 3) := by decide +kernel
theorem dX1_findPulls_9 : decode cX1_findPulls 9 = .ok (.if_icmp .ge 43, 3) := by decide +kernel
theorem dX1_findPulls_12 : decode cX1_findPulls 12 = .ok (.iload_n 2, 1) := by decide +kernel
theorem dX1_findPulls_13 : decode cX1_findPulls 13 = .ok (.aload_n 1, 1) := by decide +kernel
theorem dX1_findPulls_14 : decode cX1_findPulls 14 = .ok (.iload_n 3, 1) := by decide +kernel
theorem dX1_findPulls_15 : decode cX1_findPulls 15 = .ok (.iconst 0, 1) := by decide +kernel
theorem dX1_findPulls_16 : decode cX1_findPulls 16 = .ok (.invokevirtual 84, 3) := by decide +kernel
theorem dX1_findPulls_19 : decode cX1_findPulls 19 = .ok (.ifCond .eq 7, 3) := by decide +kernel
theorem dX1_findPulls_22 : decode cX1_findPulls 22 = .ok (.iconst 0, 1) := by decide +kernel
theorem dX1_findPulls_23 : decode cX1_findPulls 23 = .ok (.goto 4, 3) := by decide +kernel
theorem dX1_findPulls_26 : decode cX1_findPulls 26 = .ok (.iconst 1, 1) := by decide +kernel
theorem dX1_findPulls_27 : decode cX1_findPulls 27 = .ok (.iadd, 1) := by decide +kernel
theorem dX1_findPulls_28 : decode cX1_findPulls 28 = .ok (.istore_n 2, 1) := by decide +kernel
theorem dX1_findPulls_29 : decode cX1_findPulls 29 = .ok (.iload_n 2, 1) := by decide +kernel
theorem dX1_findPulls_30 : decode cX1_findPulls 30 = .ok (.aload_n 1, 1) := by decide +kernel
theorem dX1_findPulls_31 : decode cX1_findPulls 31 = .ok (.iload_n 3, 1) := by decide +kernel
theorem dX1_findPulls_32 : decode cX1_findPulls 32 = .ok (.iconst 1, 1) := by decide +kernel
theorem dX1_findPulls_33 : decode cX1_findPulls 33 = .ok (.invokevirtual 84, 3) := by decide +kernel
theorem dX1_findPulls_36 : decode cX1_findPulls 36 = .ok (.ifCond .eq 7, 3) := by decide +kernel
theorem dX1_findPulls_39 : decode cX1_findPulls 39 = .ok (.iconst 0, 1) := by decide +kernel
theorem dX1_findPulls_40 : decode cX1_findPulls 40 = .ok (.goto 4, 3) := by decide +kernel
theorem dX1_findPulls_43 : decode cX1_findPulls 43 = .ok (.iconst 1, 1) := by decide +kernel
theorem dX1_findPulls_44 : decode cX1_findPulls 44 = .ok (.iadd, 1) := by decide +kernel
theorem dX1_findPulls_45 : decode cX1_findPulls 45 = .ok (.istore_n 2, 1) := by decide +kernel
theorem dX1_findPulls_46 : decode cX1_findPulls 46 = .ok (.iinc 3 1, 3) := by decide +kernel
theorem dX1_findPulls_49 : decode cX1_findPulls 49 = .ok (.goto (-45), 3) := by decide +kernel
theorem dX1_findPulls_52 : decode cX1_findPulls 52 = .ok (.aload_n 1, 1) := by decide +kernel
theorem dX1_findPulls_53 : decode cX1_findPulls 53 = .ok (.getfield 88, 3) := by decide +kernel
theorem dX1_findPulls_56 : decode cX1_findPulls 56 = .ok (.iload_n 2, 1) := by decide +kernel
theorem dX1_findPulls_57 : decode cX1_findPulls 57 = .ok (.if_icmp .eq 19, 3) := by decide +kernel
theorem dX1_findPulls_60 : decode cX1_findPulls 60 = .ok (.aload_n 1, 1) := by decide +kernel
theorem dX1_findPulls_61 : decode cX1_findPulls 61 = .ok (.getfield 88, 3) := by decide +kernel
theorem dX1_findPulls_64 : decode cX1_findPulls 64 = .ok (.iload_n 2, 1) := by decide +kernel
theorem dX1_findPulls_65 : decode cX1_findPulls 65 = .ok (.if_icmp .ge 8, 3) := by decide +kernel
theorem dX1_findPulls_68 : decode cX1_findPulls 68 = .ok (.bipush 108, 2) := by decide +kernel
theorem dX1_findPulls_70 : decode cX1_findPulls 70 = .ok (.goto 5, 3) := by decide +kernel
theorem dX1_findPulls_73 : decode cX1_findPulls 73 = .ok (.bipush 116, 2) := by decide +kernel
theorem dX1_findPulls_75 : decode cX1_findPulls 75 = .ok (.ireturn, 1) := by decide +kernel
theorem dX1_findPulls_76 : decode cX1_findPulls 76 = .ok (.aload_n 0, 1) := by decide +kernel
theorem dX1_findPulls_77 : decode cX1_findPulls 77 = .ok (.aload_n 1, 1) := by decide +kernel
theorem dX1_findPulls_78 : decode cX1_findPulls 78 = .ok (.invokevirtual 91, 3) := by decide +kernel
theorem dX1_findPulls_81 : decode cX1_findPulls 81 = .ok (.aload_n 0, 1) := by decide +kernel
theorem dX1_findPulls_82 : decode cX1_findPulls 82 = .ok (.iload_n 2, 1) := by decide +kernel
theorem dX1_findPulls_83 : decode cX1_findPulls 83 = .ok (.invokevirtual 94, 3) := by decide +kernel
theorem dX1_findPulls_86 : decode cX1_findPulls 86 = .ok (.aload_n 0, 1) := by decide +kernel
theorem dX1_findPulls_87 : decode cX1_findPulls 87 = .ok (.getfield 31, 3) := by decide +kernel
theorem dX1_findPulls_90 : decode cX1_findPulls 90 = .ok (.iconst 1, 1) := by decide +kernel
theorem dX1_findPulls_91 : decode cX1_findPulls 91 = .ok (.iload_n 2, 1) := by decide +kernel
theorem dX1_findPulls_92 : decode cX1_findPulls 92 = .ok (.ishl, 1) := by decide +kernel
theorem dX1_findPulls_93 : decode cX1_findPulls 93 = .ok (.iconst 1, 1) := by decide +kernel
theorem dX1_findPulls_94 : decode cX1_findPulls 94 = .ok (.isub, 1) := by decide +kernel
theorem dX1_findPulls_95 : decode cX1_findPulls 95 = .ok (.laload, 1) := by decide +kernel
theorem dX1_findPulls_96 : decode cX1_findPulls 96 = .ok (.lstore_n 3, 1) := by decide +kernel
theorem dX1_findPulls_97 : decode cX1_findPulls 97 = .ok (.lload_n 3, 1) := by decide +kernel
theorem dX1_findPulls_98 : decode cX1_findPulls 98 = .ok (.lconst 0, 1) := by decide +kernel
theorem dX1_findPulls_99 : decode cX1_findPulls 99 = .ok (.lcmp, 1) := by decide +kernel
theorem dX1_findPulls_100 : decode cX1_findPulls 100 = .ok (.ifCond .ne 6, 3) := by decide +kernel
theorem dX1_findPulls_103 : decode cX1_findPulls 103 = .ok (.bipush 99, 2) := by decide +kernel
theorem dX1_findPulls_105 : decode cX1_findPulls 105 = .ok (.ireturn, 1) := by decide +kernel
theorem dX1_findPulls_106 : decode cX1_findPulls 106 = .ok (.aload_n 0, 1) := by decide +kernel
theorem dX1_findPulls_107 : decode cX1_findPulls 107 = .ok (.lload_n 3, 1) := by decide +kernel
theorem dX1_findPulls_108 : decode cX1_findPulls 108 = .ok (.invokestatic 98, 3) := by decide +kernel
theorem dX1_findPulls_111 : decode cX1_findPulls 111 = .ok (.putfield 104, 3) := by decide +kernel
theorem dX1_findPulls_114 : decode cX1_findPulls 114 = .ok (.iconst 0, 1) := by decide +kernel
theorem dX1_findPulls_115 : decode cX1_findPulls 115 = .ok (.istore 5, 2) := by decide +kernel
theorem dX1_findPulls_117 : decode cX1_findPulls 117 = .ok (.iload 5, 2) := by decide +kernel
theorem dX1_findPulls_119 : decode cX1_findPulls 119 = .ok (.iload_n 2, 1) := by decide +kernel
theorem dX1_findPulls_120 : decode cX1_findPulls 120 = .ok (.if_icmp .ge 59, 3) := by decide +kernel
theorem dX1_findPulls_123 : decode cX1_findPulls 123 = .ok (.iload_n 2, 1) := by decide +kernel
theorem dX1_findPulls_124 : decode cX1_findPulls 124 = .ok (.iconst 1, 1) := by decide +kernel
theorem dX1_findPulls_125 : decode cX1_findPulls 125 = .ok (.isub, 1) := by decide +kernel
theorem dX1_findPulls_126 : decode cX1_findPulls 126 = .ok (.iload 5, 2) := by decide +kernel
theorem dX1_findPulls_128 : decode cX1_findPulls 128 = .ok (.isub, 1) := by decide +kernel
theorem dX1_findPulls_129 : decode cX1_findPulls 129 = .ok (.iconst 2, 1) := by decide +kernel
theorem dX1_findPulls_130 : decode cX1_findPulls 130 = .ok (.irem, 1) := by decide +kernel
theorem dX1_findPulls_131 : decode cX1_findPulls 131 = .ok (.ifCond .eq 7, 3) := by decide +kernel
theorem dX1_findPulls_134 : decode cX1_findPulls 134 = .ok (.iconst 1, 1) := by decide +kernel
theorem dX1_findPulls_135 : decode cX1_findPulls 135 = .ok (.goto 4, 3) := by decide +kernel
theorem dX1_findPulls_138 : decode cX1_findPulls 138 = .ok (.iconst 0, 1) := by decide +kernel
theorem dX1_findPulls_139 : decode cX1_findPulls 139 = .ok (.istore 6, 2) := by decide +kernel
theorem dX1_findPulls_141 : decode cX1_findPulls 141 = .ok (.aload_n 0, 1) := by decide +kernel
theorem dX1_findPulls_142 : decode cX1_findPulls 142 = .ok (.iload 5, 2) := by decide +kernel
theorem dX1_findPulls_144 : decode cX1_findPulls 144 = .ok (.iconst 1, 1) := by decide +kernel
theorem dX1_findPulls_145 : decode cX1_findPulls 145 = .ok (.iload_n 2, 1) := by decide +kernel
theorem dX1_findPulls_146 : decode cX1_findPulls 146 = .ok (.ishl, 1) := by decide +kernel
theorem dX1_findPulls_147 : decode cX1_findPulls 147 = .ok (.iconst 1, 1) := by decide +kernel
theorem dX1_findPulls_148 : decode cX1_findPulls 148 = .ok (.isub, 1) := by decide +kernel
theorem dX1_findPulls_149 : decode cX1_findPulls 149 = .ok (.iload 6, 2) := by decide +kernel
theorem dX1_findPulls_151 : decode cX1_findPulls 151 = .ok (.lload_n 3, 1) := by decide +kernel
theorem dX1_findPulls_152 : decode cX1_findPulls 152 = .ok (.lconst 0, 1) := by decide +kernel
theorem dX1_findPulls_153 : decode cX1_findPulls 153 = .ok (.lcmp, 1) := by decide +kernel
theorem dX1_findPulls_154 : decode cX1_findPulls 154 = .ok (.ifCond .le 7, 3) := by decide +kernel
theorem dX1_findPulls_157 : decode cX1_findPulls 157 = .ok (.iconst 1, 1) := by decide +kernel
theorem dX1_findPulls_158 : decode cX1_findPulls 158 = .ok (.goto 4, 3) := by decide +kernel
theorem dX1_findPulls_161 : decode cX1_findPulls 161 = .ok (.iconst 0, 1) := by decide +kernel
theorem dX1_findPulls_162 : decode cX1_findPulls 162 = .ok (.if_icmp .ne 7, 3) := by decide +kernel
theorem dX1_findPulls_165 : decode cX1_findPulls 165 = .ok (.iconst (-1), 1) := by decide +kernel
theorem dX1_findPulls_166 : decode cX1_findPulls 166 = .ok (.goto 4, 3) := by decide +kernel
theorem dX1_findPulls_169 : decode cX1_findPulls 169 = .ok (.iconst 1, 1) := by decide +kernel
theorem dX1_findPulls_170 : decode cX1_findPulls 170 = .ok (.invokevirtual 108, 3) := by decide +kernel
theorem dX1_findPulls_173 : decode cX1_findPulls 173 = .ok (.iinc 5 1, 3) := by decide +kernel
theorem dX1_findPulls_176 : decode cX1_findPulls 176 = .ok (.goto (-59), 3) := by decide +kernel
theorem dX1_findPulls_179 : decode cX1_findPulls 179 = .ok (.bipush 46, 2) := by decide +kernel
theorem dX1_findPulls_181 : decode cX1_findPulls 181 = .ok (.ireturn, 1) := by decide +kernel
theorem dX1_fillRows_0 : decode cX1_fillRows 0 = .ok (.iconst 0, 1) := by decide +kernel
theorem dX1_fillRows_1 : decode cX1_fillRows 1 = .ok (.istore_n 2, 1) := by decide +kernel
theorem dX1_fillRows_2 : decode cX1_fillRows 2 = .ok (.iconst 0, 1) := by decide +kernel
theorem dX1_fillRows_3 : decode cX1_fillRows 3 = .ok (.istore_n 3, 1) := by decide +kernel
theorem dX1_fillRows_4 : decode cX1_fillRows 4 = .ok (.iload_n 3, 1) := by decide +kernel
theorem dX1_fillRows_5 : decode cX1_fillRows 5 = .ok (.iconst 2, 1) := by decide +kernel
theorem dX1_fillRows_6 : decode cX1_fillRows 6 = .ok (.aload_n 1, 1) := by decide +kernel
theorem dX1_fillRows_7 : decode cX1_fillRows 7 = .ok (.getfield 78, 3) := by decide +kernel
theorem dX1_fillRows_10 : decode cX1_fillRows 10 = .ok (.imul, 1) := by decide +kernel
theorem dX1_fillRows_11 : decode cX1_fillRows 11 = .ok (.if_icmp .ge 115, 3) := by decide +kernel
theorem dX1_fillRows_14 : decode cX1_fillRows 14 = .ok (.iload_n 2, 1) := by decide +kernel
theorem dX1_fillRows_15 : decode cX1_fillRows 15 = .ok (.bipush 9, 2) := by decide +kernel
theorem dX1_fillRows_17 : decode cX1_fillRows 17 = .ok (.if_icmp .ge 109, 3) := by decide +kernel
theorem dX1_fillRows_20 : decode cX1_fillRows 20 = .ok (.iload_n 3, 1) := by decide +kernel
theorem dX1_fillRows_21 : decode cX1_fillRows 21 = .ok (.iconst 2, 1) := by decide +kernel
theorem dX1_fillRows_22 : decode cX1_fillRows 22 = .ok (.idiv, 1) := by decide +kernel
theorem dX1_fillRows_23 : decode cX1_fillRows 23 = .ok (.istore 4, 2) := by decide +kernel
theorem dX1_fillRows_25 : decode cX1_fillRows 25 = .ok (.iload_n 3, 1) := by decide +kernel
theorem dX1_fillRows_26 : decode cX1_fillRows 26 = .ok (.iconst 2, 1) := by decide +kernel
theorem dX1_fillRows_27 : decode cX1_fillRows 27 = .ok (.irem, 1) := by decide +kernel
theorem dX1_fillRows_28 : decode cX1_fillRows 28 = .ok (.istore 5, 2) := by decide +kernel
theorem dX1_fillRows_30 : decode cX1_fillRows 30 = .ok (.aload_n 1, 1) := by decide +kernel
theorem dX1_fillRows_31 : decode cX1_fillRows 31 = .ok (.iload 4, 2) := by decide +kernel
theorem dX1_fillRows_33 : decode cX1_fillRows 33 = .ok (.iload 5, 2) := by decide +kernel
theorem dX1_fillRows_35 : decode cX1_fillRows 35 = .ok (.invokevirtual 84, 3) := by decide +kernel
theorem dX1_fillRows_38 : decode cX1_fillRows 38 = .ok (.ifCond .eq 6, 3) := by decide +kernel
theorem dX1_fillRows_41 : decode cX1_fillRows 41 = .ok (.goto 79, 3) := by decide +kernel
theorem dX1_fillRows_44 : decode cX1_fillRows 44 = .ok (.iconst 0, 1) := by decide +kernel
theorem dX1_fillRows_45 : decode cX1_fillRows 45 = .ok (.istore 6, 2) := by decide +kernel
theorem dX1_fillRows_47 : decode cX1_fillRows 47 = .ok (.iload 6, 2) := by decide +kernel
theorem dX1_fillRows_49 : decode cX1_fillRows 49 = .ok (.aload_n 1, 1) := by decide +kernel
theorem dX1_fillRows_50 : decode cX1_fillRows 50 = .ok (.getfield 88, 3) := by decide +kernel
theorem dX1_fillRows_53 : decode cX1_fillRows 53 = .ok (.if_icmp .ge 31, 3) := by decide +kernel
theorem dX1_fillRows_56 : decode cX1_fillRows 56 = .ok (.aload_n 0, 1) := by decide +kernel
theorem dX1_fillRows_57 : decode cX1_fillRows 57 = .ok (.getfield 21, 3) := by decide +kernel
theorem dX1_fillRows_60 : decode cX1_fillRows 60 = .ok (.iload_n 2, 1) := by decide +kernel
theorem dX1_fillRows_61 : decode cX1_fillRows 61 = .ok (.bipush 9, 2) := by decide +kernel
theorem dX1_fillRows_63 : decode cX1_fillRows 63 = .ok (.imul, 1) := by decide +kernel
theorem dX1_fillRows_64 : decode cX1_fillRows 64 = .ok (.iload 6, 2) := by decide +kernel
theorem dX1_fillRows_66 : decode cX1_fillRows 66 = .ok (.iadd, 1) := by decide +kernel
theorem dX1_fillRows_67 : decode cX1_fillRows 67 = .ok (.aload_n 1, 1) := by decide +kernel
theorem dX1_fillRows_68 : decode cX1_fillRows 68 = .ok (.iload 6, 2) := by decide +kernel
theorem dX1_fillRows_70 : decode cX1_fillRows 70 = .ok (.iload 4, 2) := by decide +kernel
theorem dX1_fillRows_72 : decode cX1_fillRows 72 = .ok (.iload 5, 2) := by decide +kernel
theorem dX1_fillRows_74 : decode cX1_fillRows 74 = .ok (.invokevirtual 112, 3) := by decide +kernel
theorem dX1_fillRows_77 : decode cX1_fillRows 77 = .ok (.iastore, 1) := by decide +kernel
theorem dX1_fillRows_78 : decode cX1_fillRows 78 = .ok (.iinc 6 1, 3) := by decide +kernel
theorem dX1_fillRows_81 : decode cX1_fillRows 81 = .ok (.goto (-34), 3) := by decide +kernel
theorem dX1_fillRows_84 : decode cX1_fillRows 84 = .ok (.aload_n 0, 1) := by decide +kernel
theorem dX1_fillRows_85 : decode cX1_fillRows 85 = .ok (.getfield 25, 3) := by decide +kernel
theorem dX1_fillRows_88 : decode cX1_fillRows 88 = .ok (.iload_n 2, 1) := by decide +kernel
theorem dX1_fillRows_89 : decode cX1_fillRows 89 = .ok (.aload_n 1, 1) := by decide +kernel
theorem dX1_fillRows_90 : decode cX1_fillRows 90 = .ok (.getfield 116, 3) := by decide +kernel
theorem dX1_fillRows_93 : decode cX1_fillRows 93 = .ok (.iload_n 3, 1) := by decide +kernel
theorem dX1_fillRows_94 : decode cX1_fillRows 94 = .ok (.iaload, 1) := by decide +kernel
theorem dX1_fillRows_95 : decode cX1_fillRows 95 = .ok (.ineg, 1) := by decide +kernel
theorem dX1_fillRows_96 : decode cX1_fillRows 96 = .ok (.bipush 8, 2) := by decide +kernel
theorem dX1_fillRows_98 : decode cX1_fillRows 98 = .ok (.ishr, 1) := by decide +kernel
theorem dX1_fillRows_99 : decode cX1_fillRows 99 = .ok (.iastore, 1) := by decide +kernel
theorem dX1_fillRows_100 : decode cX1_fillRows 100 = .ok (.aload_n 0, 1) := by decide +kernel
theorem dX1_fillRows_101 : decode cX1_fillRows 101 = .ok (.getfield 28, 3) := by decide +kernel
theorem dX1_fillRows_104 : decode cX1_fillRows 104 = .ok (.iload_n 2, 1) := by decide +kernel
theorem dX1_fillRows_105 : decode cX1_fillRows 105 = .ok (.aload_n 1, 1) := by decide +kernel
theorem dX1_fillRows_106 : decode cX1_fillRows 106 = .ok (.getfield 116, 3) := by decide +kernel
theorem dX1_fillRows_109 : decode cX1_fillRows 109 = .ok (.iload_n 3, 1) := by decide +kernel
theorem dX1_fillRows_110 : decode cX1_fillRows 110 = .ok (.iaload, 1) := by decide +kernel
theorem dX1_fillRows_111 : decode cX1_fillRows 111 = .ok (.ineg, 1) := by decide +kernel
theorem dX1_fillRows_112 : decode cX1_fillRows 112 = .ok (.sipush 255, 3) := by decide +kernel
theorem dX1_fillRows_115 : decode cX1_fillRows 115 = .ok (.iand, 1) := by decide +kernel
theorem dX1_fillRows_116 : decode cX1_fillRows 116 = .ok (.iastore, 1) := by decide +kernel
theorem dX1_fillRows_117 : decode cX1_fillRows 117 = .ok (.iinc 2 1, 3) := by decide +kernel
theorem dX1_fillRows_120 : decode cX1_fillRows 120 = .ok (.iinc 3 1, 3) := by decide +kernel
theorem dX1_fillRows_123 : decode cX1_fillRows 123 = .ok (.goto (-119), 3) := by decide +kernel
theorem dX1_fillRows_126 : decode cX1_fillRows 126 = .ok (.return_, 1) := by decide +kernel
theorem dX1_findDeterminants_0 : decode cX1_findDeterminants 0 = .ok (.iconst 0, 1) := by decide +kernel
theorem dX1_findDeterminants_1 : decode cX1_findDeterminants 1 = .ok (.istore_n 2, 1) := by decide +kernel
theorem dX1_findDeterminants_2 : decode cX1_findDeterminants 2 = .ok (.iload_n 2, 1) := by decide +kernel
theorem dX1_findDeterminants_3 : decode cX1_findDeterminants 3 = .ok (.iconst 1, 1) := by decide +kernel
theorem dX1_findDeterminants_4 : decode cX1_findDeterminants 4 = .ok (.iload_n 1, 1) := by decide +kernel
theorem dX1_findDeterminants_5 : decode cX1_findDeterminants 5 = .ok (.ishl, 1) := by decide +kernel
theorem dX1_findDeterminants_6 : decode cX1_findDeterminants 6 = .ok (.if_icmp .ge 107, 3) := by decide +kernel
theorem dX1_findDeterminants_9 : decode cX1_findDeterminants 9 = .ok (.iload_n 2, 1) := by decide +kernel
theorem dX1_findDeterminants_10 : decode cX1_findDeterminants 10 = .ok (.invokestatic 119, 3) := by decide +kernel
theorem dX1_findDeterminants_13 : decode cX1_findDeterminants 13 = .ok (.istore_n 3, 1) := by decide +kernel
theorem dX1_findDeterminants_14 : decode cX1_findDeterminants 14 = .ok (.aload_n 0, 1) := by decide +kernel
theorem dX1_findDeterminants_15 : decode cX1_findDeterminants 15 = .ok (.getfield 31, 3) := by decide +kernel
theorem dX1_findDeterminants_18 : decode cX1_findDeterminants 18 = .ok (.iload_n 2, 1) := by decide +kernel
theorem dX1_findDeterminants_19 : decode cX1_findDeterminants 19 = .ok (.iload_n 2, 1) := by decide +kernel
theorem dX1_findDeterminants_20 : decode cX1_findDeterminants 20 = .ok (.ifCond .ne 7, 3) := by decide +kernel
theorem dX1_findDeterminants_23 : decode cX1_findDeterminants 23 = .ok (.lconst 1, 1) := by decide +kernel
theorem dX1_findDeterminants_24 : decode cX1_findDeterminants 24 = .ok (.goto 15, 3) := by decide +kernel
theorem dX1_findDeterminants_27 : decode cX1_findDeterminants 27 = .ok (.aload_n 0, 1) := by decide +kernel
theorem dX1_findDeterminants_28 : decode cX1_findDeterminants 28 = .ok (.aload_n 0, 1) := by decide +kernel
theorem dX1_findDeterminants_29 : decode cX1_findDeterminants 29 = .ok (.getfield 31, 3) := by decide +kernel
theorem dX1_findDeterminants_32 : decode cX1_findDeterminants 32 = .ok (.iload_n 2, 1) := by decide +kernel
theorem dX1_findDeterminants_33 : decode cX1_findDeterminants 33 = .ok (.iload_n 3, 1) := by decide +kernel
theorem dX1_findDeterminants_34 : decode cX1_findDeterminants 34 = .ok (.iconst 1, 1) := by decide +kernel
theorem dX1_findDeterminants_35 : decode cX1_findDeterminants 35 = .ok (.isub, 1) := by decide +kernel
theorem dX1_findDeterminants_36 : decode cX1_findDeterminants 36 = .ok (.invokevirtual 125, 3) := by decide +kernel
theorem dX1_findDeterminants_39 : decode cX1_findDeterminants 39 = .ok (.lastore, 1) := by decide +kernel
theorem dX1_findDeterminants_40 : decode cX1_findDeterminants 40 = .ok (.iload_n 3, 1) := by decide +kernel
theorem dX1_findDeterminants_41 : decode cX1_findDeterminants 41 = .ok (.iload_n 1, 1) := by decide +kernel
theorem dX1_findDeterminants_42 : decode cX1_findDeterminants 42 = .ok (.if_icmp .ge 65, 3) := by decide +kernel
theorem dX1_findDeterminants_45 : decode cX1_findDeterminants 45 = .ok (.aload_n 0, 1) := by decide +kernel
theorem dX1_findDeterminants_46 : decode cX1_findDeterminants 46 = .ok (.getfield 34, 3) := by decide +kernel
theorem dX1_findDeterminants_49 : decode cX1_findDeterminants 49 = .ok (.iload_n 2, 1) := by decide +kernel
theorem dX1_findDeterminants_50 : decode cX1_findDeterminants 50 = .ok (.aload_n 0, 1) := by decide +kernel
theorem dX1_findDeterminants_51 : decode cX1_findDeterminants 51 = .ok (.getfield 25, 3) := by decide +kernel
theorem dX1_findDeterminants_54 : decode cX1_findDeterminants 54 = .ok (.iload_n 3, 1) := by decide +kernel
theorem dX1_findDeterminants_55 : decode cX1_findDeterminants 55 = .ok (.iaload, 1) := by decide +kernel
theorem dX1_findDeterminants_56 : decode cX1_findDeterminants 56 = .ok (.i2l, 1) := by decide +kernel
theorem dX1_findDeterminants_57 : decode cX1_findDeterminants 57 = .ok (.aload_n 0, 1) := by decide +kernel
theorem dX1_findDeterminants_58 : decode cX1_findDeterminants 58 = .ok (.getfield 31, 3) := by decide +kernel
theorem dX1_findDeterminants_61 : decode cX1_findDeterminants 61 = .ok (.iload_n 2, 1) := by decide +kernel
theorem dX1_findDeterminants_62 : decode cX1_findDeterminants 62 = .ok (.laload, 1) := by decide +kernel
theorem dX1_findDeterminants_63 : decode cX1_findDeterminants 63 = .ok (.lmul, 1) := by decide +kernel
theorem dX1_findDeterminants_64 : decode cX1_findDeterminants 64 = .ok (.aload_n 0, 1) := by decide +kernel
theorem dX1_findDeterminants_65 : decode cX1_findDeterminants 65 = .ok (.aload_n 0, 1) := by decide +kernel
theorem dX1_findDeterminants_66 : decode cX1_findDeterminants 66 = .ok (.getfield 34, 3) := by decide +kernel
theorem dX1_findDeterminants_69 : decode cX1_findDeterminants 69 = .ok (.iload_n 2, 1) := by decide +kernel
theorem dX1_findDeterminants_70 : decode cX1_findDeterminants 70 = .ok (.iload_n 3, 1) := by decide +kernel
theorem dX1_findDeterminants_71 : decode cX1_findDeterminants 71 = .ok (.invokevirtual 125, 3) := by decide +kernel
theorem dX1_findDeterminants_74 : decode cX1_findDeterminants 74 = .ok (.lsub, 1) := by decide +kernel
theorem dX1_findDeterminants_75 : decode cX1_findDeterminants 75 = .ok (.lastore, 1) := by decide +kernel
theorem dX1_findDeterminants_76 : decode cX1_findDeterminants 76 = .ok (.aload_n 0, 1) := by decide +kernel
theorem dX1_findDeterminants_77 : decode cX1_findDeterminants 77 = .ok (.getfield 37, 3) := by decide +kernel
theorem dX1_findDeterminants_80 : decode cX1_findDeterminants 80 = .ok (.iload_n 2, 1) := by decide +kernel
theorem dX1_findDeterminants_81 : decode cX1_findDeterminants 81 = .ok (.aload_n 0, 1) := by decide +kernel
theorem dX1_findDeterminants_82 : decode cX1_findDeterminants 82 = .ok (.getfield 28, 3) := by decide +kernel
theorem dX1_findDeterminants_85 : decode cX1_findDeterminants 85 = .ok (.iload_n 3, 1) := by decide +kernel
theorem dX1_findDeterminants_86 : decode cX1_findDeterminants 86 = .ok (.iaload, 1) := by decide +kernel
theorem dX1_findDeterminants_87 : decode cX1_findDeterminants 87 = .ok (.i2l, 1) := by decide +kernel
theorem dX1_findDeterminants_88 : decode cX1_findDeterminants 88 = .ok (.aload_n 0, 1) := by decide +kernel
theorem dX1_findDeterminants_89 : decode cX1_findDeterminants 89 = .ok (.getfield 31, 3) := by decide +kernel
theorem dX1_findDeterminants_92 : decode cX1_findDeterminants 92 = .ok (.iload_n 2, 1) := by decide +kernel
theorem dX1_findDeterminants_93 : decode cX1_findDeterminants 93 = .ok (.laload, 1) := by decide +kernel
theorem dX1_findDeterminants_94 : decode cX1_findDeterminants 94 = .ok (.lmul, 1) := by decide +kernel
theorem dX1_findDeterminants_95 : decode cX1_findDeterminants 95 = .ok (.aload_n 0, 1) := by decide +kernel
theorem dX1_findDeterminants_96 : decode cX1_findDeterminants 96 = .ok (.aload_n 0, 1) := by decide +kernel
theorem dX1_findDeterminants_97 : decode cX1_findDeterminants 97 = .ok (.getfield 37, 3) := by decide +kernel
theorem dX1_findDeterminants_100 : decode cX1_findDeterminants 100 = .ok (.iload_n 2, 1) := by decide +kernel
theorem dX1_findDeterminants_101 : decode cX1_findDeterminants 101 = .ok (.iload_n 3, 1) := by decide +kernel
theorem dX1_findDeterminants_102 : decode cX1_findDeterminants 102 = .ok (.invokevirtual 125, 3) := by decide +kernel
theorem dX1_findDeterminants_105 : decode cX1_findDeterminants 105 = .ok (.lsub, 1) := by decide +kernel
theorem dX1_findDeterminants_106 : decode cX1_findDeterminants 106 = .ok (.lastore, 1) := by decide +kernel
theorem dX1_findDeterminants_107 : decode cX1_findDeterminants 107 = .ok (.iinc 2 1, 3) := by decide +kernel
theorem dX1_findDeterminants_110 : decode cX1_findDeterminants 110 = .ok (.goto (-108), 3) := by decide +kernel
theorem dX1_findDeterminants_113 : decode cX1_findDeterminants 113 = .ok (.return_, 1) := by decide +kernel
theorem dX1_expanded_0 : decode cX1_expanded 0 = .ok (.lconst 0, 1) := by decide +kernel
theorem dX1_expanded_1 : decode cX1_expanded 1 = .ok (.lstore 4, 2) := by decide +kernel
theorem dX1_expanded_3 : decode cX1_expanded 3 = .ok (.lconst 1, 1) := by decide +kernel
theorem dX1_expanded_4 : decode cX1_expanded 4 = .ok (.lstore 6, 2) := by decide +kernel
theorem dX1_expanded_6 : decode cX1_expanded 6 = .ok (.bipush 8, 2) := by decide +kernel
theorem dX1_expanded_8 : decode cX1_expanded 8 = .ok (.istore 8, 2) := by decide +kernel
theorem dX1_expanded_10 : decode cX1_expanded 10 = .ok (.iload 8, 2) := by decide +kernel
theorem dX1_expanded_12 : decode cX1_expanded 12 = .ok (.ifCond .lt 53, 3) := by decide +kernel
theorem dX1_expanded_15 : decode cX1_expanded 15 = .ok (.iload_n 2, 1) := by decide +kernel
theorem dX1_expanded_16 : decode cX1_expanded 16 = .ok (.iload 8, 2) := by decide +kernel
theorem dX1_expanded_18 : decode cX1_expanded 18 = .ok (.ishr, 1) := by decide +kernel
theorem dX1_expanded_19 : decode cX1_expanded 19 = .ok (.iconst 1, 1) := by decide +kernel
theorem dX1_expanded_20 : decode cX1_expanded 20 = .ok (.iand, 1) := by decide +kernel
theorem dX1_expanded_21 : decode cX1_expanded 21 = .ok (.ifCond .eq 38, 3) := by decide +kernel
theorem dX1_expanded_24 : decode cX1_expanded 24 = .ok (.lload 4, 2) := by decide +kernel
theorem dX1_expanded_26 : decode cX1_expanded 26 = .ok (.lload 6, 2) := by decide +kernel
theorem dX1_expanded_28 : decode cX1_expanded 28 = .ok (.aload_n 0, 1) := by decide +kernel
theorem dX1_expanded_29 : decode cX1_expanded 29 = .ok (.getfield 21, 3) := by decide +kernel
theorem dX1_expanded_32 : decode cX1_expanded 32 = .ok (.iload_n 3, 1) := by decide +kernel
theorem dX1_expanded_33 : decode cX1_expanded 33 = .ok (.bipush 9, 2) := by decide +kernel
theorem dX1_expanded_35 : decode cX1_expanded 35 = .ok (.imul, 1) := by decide +kernel
theorem dX1_expanded_36 : decode cX1_expanded 36 = .ok (.iload 8, 2) := by decide +kernel
theorem dX1_expanded_38 : decode cX1_expanded 38 = .ok (.iadd, 1) := by decide +kernel
theorem dX1_expanded_39 : decode cX1_expanded 39 = .ok (.iaload, 1) := by decide +kernel
theorem dX1_expanded_40 : decode cX1_expanded 40 = .ok (.i2l, 1) := by decide +kernel
theorem dX1_expanded_41 : decode cX1_expanded 41 = .ok (.lmul, 1) := by decide +kernel
theorem dX1_expanded_42 : decode cX1_expanded 42 = .ok (.aload_n 1, 1) := by decide +kernel
theorem dX1_expanded_43 : decode cX1_expanded 43 = .ok (.iload_n 2, 1) := by decide +kernel
theorem dX1_expanded_44 : decode cX1_expanded 44 = .ok (.iconst 1, 1) := by decide +kernel
theorem dX1_expanded_45 : decode cX1_expanded 45 = .ok (.iload 8, 2) := by decide +kernel
theorem dX1_expanded_47 : decode cX1_expanded 47 = .ok (.ishl, 1) := by decide +kernel
theorem dX1_expanded_48 : decode cX1_expanded 48 = .ok (.ixor, 1) := by decide +kernel
theorem dX1_expanded_49 : decode cX1_expanded 49 = .ok (.laload, 1) := by decide +kernel
theorem dX1_expanded_50 : decode cX1_expanded 50 = .ok (.lmul, 1) := by decide +kernel
theorem dX1_expanded_51 : decode cX1_expanded 51 = .ok (.ladd, 1) := by decide +kernel
theorem dX1_expanded_52 : decode cX1_expanded 52 = .ok (.lstore 4, 2) := by decide +kernel
theorem dX1_expanded_54 : decode cX1_expanded 54 = .ok (.lload 6, 2) := by decide +kernel
theorem dX1_expanded_56 : decode cX1_expanded 56 = .ok (.lneg, 1) := by decide +kernel
theorem dX1_expanded_57 : decode cX1_expanded 57 = .ok (.lstore 6, 2) := by decide +kernel
theorem dX1_expanded_59 : decode cX1_expanded 59 = .ok (.iinc 8 (-1), 3) := by decide +kernel
theorem dX1_expanded_62 : decode cX1_expanded 62 = .ok (.goto (-52), 3) := by decide +kernel
theorem dX1_expanded_65 : decode cX1_expanded 65 = .ok (.lload 4, 2) := by decide +kernel
theorem dX1_expanded_67 : decode cX1_expanded 67 = .ok (.lreturn, 1) := by decide +kernel
theorem dX1_setPull_0 : decode cX1_setPull 0 = .ok (.iload_n 3, 1) := by decide +kernel
theorem dX1_setPull_1 : decode cX1_setPull 1 = .ok (.i2l, 1) := by decide +kernel
theorem dX1_setPull_2 : decode cX1_setPull 2 = .ok (.aload_n 0, 1) := by decide +kernel
theorem dX1_setPull_3 : decode cX1_setPull 3 = .ok (.getfield 34, 3) := by decide +kernel
theorem dX1_setPull_6 : decode cX1_setPull 6 = .ok (.iload_n 2, 1) := by decide +kernel
theorem dX1_setPull_7 : decode cX1_setPull 7 = .ok (.iconst 1, 1) := by decide +kernel
theorem dX1_setPull_8 : decode cX1_setPull 8 = .ok (.iload_n 1, 1) := by decide +kernel
theorem dX1_setPull_9 : decode cX1_setPull 9 = .ok (.ishl, 1) := by decide +kernel
theorem dX1_setPull_10 : decode cX1_setPull 10 = .ok (.ixor, 1) := by decide +kernel
theorem dX1_setPull_11 : decode cX1_setPull 11 = .ok (.laload, 1) := by decide +kernel
theorem dX1_setPull_12 : decode cX1_setPull 12 = .ok (.lmul, 1) := by decide +kernel
theorem dX1_setPull_13 : decode cX1_setPull 13 = .ok (.lstore 4, 2) := by decide +kernel
theorem dX1_setPull_15 : decode cX1_setPull 15 = .ok (.iload_n 3, 1) := by decide +kernel
theorem dX1_setPull_16 : decode cX1_setPull 16 = .ok (.i2l, 1) := by decide +kernel
theorem dX1_setPull_17 : decode cX1_setPull 17 = .ok (.aload_n 0, 1) := by decide +kernel
theorem dX1_setPull_18 : decode cX1_setPull 18 = .ok (.getfield 37, 3) := by decide +kernel
theorem dX1_setPull_21 : decode cX1_setPull 21 = .ok (.iload_n 2, 1) := by decide +kernel
theorem dX1_setPull_22 : decode cX1_setPull 22 = .ok (.iconst 1, 1) := by decide +kernel
theorem dX1_setPull_23 : decode cX1_setPull 23 = .ok (.iload_n 1, 1) := by decide +kernel
theorem dX1_setPull_24 : decode cX1_setPull 24 = .ok (.ishl, 1) := by decide +kernel
theorem dX1_setPull_25 : decode cX1_setPull 25 = .ok (.ixor, 1) := by decide +kernel
theorem dX1_setPull_26 : decode cX1_setPull 26 = .ok (.laload, 1) := by decide +kernel
theorem dX1_setPull_27 : decode cX1_setPull 27 = .ok (.lmul, 1) := by decide +kernel
theorem dX1_setPull_28 : decode cX1_setPull 28 = .ok (.lstore 6, 2) := by decide +kernel
theorem dX1_setPull_30 : decode cX1_setPull 30 = .ok (.aload_n 0, 1) := by decide +kernel
theorem dX1_setPull_31 : decode cX1_setPull 31 = .ok (.getfield 104, 3) := by decide +kernel
theorem dX1_setPull_34 : decode cX1_setPull 34 = .ok (.lconst 0, 1) := by decide +kernel
theorem dX1_setPull_35 : decode cX1_setPull 35 = .ok (.lcmp, 1) := by decide +kernel
theorem dX1_setPull_36 : decode cX1_setPull 36 = .ok (.ifCond .le 49, 3) := by decide +kernel
theorem dX1_setPull_39 : decode cX1_setPull 39 = .ok (.aload_n 0, 1) := by decide +kernel
theorem dX1_setPull_40 : decode cX1_setPull 40 = .ok (.getfield 11, 3) := by decide +kernel
theorem dX1_setPull_43 : decode cX1_setPull 43 = .ok (.iload_n 1, 1) := by decide +kernel
theorem dX1_setPull_44 : decode cX1_setPull 44 = .ok (.ldc2_w 129, 3) := by decide +kernel
theorem dX1_setPull_47 : decode cX1_setPull 47 = .ok (.lload 4, 2) := by decide +kernel
theorem dX1_setPull_49 : decode cX1_setPull 49 = .ok (.aload_n 0, 1) := by decide +kernel
theorem dX1_setPull_50 : decode cX1_setPull 50 = .ok (.getfield 104, 3) := by decide +kernel
theorem dX1_setPull_53 : decode cX1_setPull 53 = .ok (.invokestatic 131, 3) := by decide +kernel
theorem dX1_setPull_56 : decode cX1_setPull 56 = .ok (.lmul, 1) := by decide +kernel
theorem dX1_setPull_57 : decode cX1_setPull 57 = .ok (.lastore, 1) := by decide +kernel
theorem dX1_setPull_58 : decode cX1_setPull 58 = .ok (.aload_n 0, 1) := by decide +kernel
theorem dX1_setPull_59 : decode cX1_setPull 59 = .ok (.getfield 15, 3) := by decide +kernel
theorem dX1_setPull_62 : decode cX1_setPull 62 = .ok (.iload_n 1, 1) := by decide +kernel
theorem dX1_setPull_63 : decode cX1_setPull 63 = .ok (.ldc2_w 129, 3) := by decide +kernel
theorem dX1_setPull_66 : decode cX1_setPull 66 = .ok (.lload 4, 2) := by decide +kernel
theorem dX1_setPull_68 : decode cX1_setPull 68 = .ok (.aload_n 0, 1) := by decide +kernel
theorem dX1_setPull_69 : decode cX1_setPull 69 = .ok (.getfield 104, 3) := by decide +kernel
theorem dX1_setPull_72 : decode cX1_setPull 72 = .ok (.invokestatic 135, 3) := by decide +kernel
theorem dX1_setPull_75 : decode cX1_setPull 75 = .ok (.lmul, 1) := by decide +kernel
theorem dX1_setPull_76 : decode cX1_setPull 76 = .ok (.lload 6, 2) := by decide +kernel
theorem dX1_setPull_78 : decode cX1_setPull 78 = .ok (.ladd, 1) := by decide +kernel
theorem dX1_setPull_79 : decode cX1_setPull 79 = .ok (.lastore, 1) := by decide +kernel
theorem dX1_setPull_80 : decode cX1_setPull 80 = .ok (.aload_n 0, 1) := by decide +kernel
theorem dX1_setPull_81 : decode cX1_setPull 81 = .ok (.iload_n 1, 1) := by decide +kernel
theorem dX1_setPull_82 : decode cX1_setPull 82 = .ok (.invokevirtual 138, 3) := by decide +kernel
theorem dX1_setPull_85 : decode cX1_setPull 85 = .ok (.return_, 1) := by decide +kernel
theorem dX1_carry_0 : decode cX1_carry 0 = .ok (.aload_n 0, 1) := by decide +kernel
theorem dX1_carry_1 : decode cX1_carry 1 = .ok (.getfield 104, 3) := by decide +kernel
theorem dX1_carry_4 : decode cX1_carry 4 = .ok (.lconst 0, 1) := by decide +kernel
theorem dX1_carry_5 : decode cX1_carry 5 = .ok (.lcmp, 1) := by decide +kernel
theorem dX1_carry_6 : decode cX1_carry 6 = .ok (.ifCond .le 44, 3) := by decide +kernel
theorem dX1_carry_9 : decode cX1_carry 9 = .ok (.aload_n 0, 1) := by decide +kernel
theorem dX1_carry_10 : decode cX1_carry 10 = .ok (.getfield 11, 3) := by decide +kernel
theorem dX1_carry_13 : decode cX1_carry 13 = .ok (.iload_n 1, 1) := by decide +kernel
theorem dX1_carry_14 : decode cX1_carry 14 = .ok (.dup2, 1) := by decide +kernel
theorem dX1_carry_15 : decode cX1_carry 15 = .ok (.laload, 1) := by decide +kernel
theorem dX1_carry_16 : decode cX1_carry 16 = .ok (.aload_n 0, 1) := by decide +kernel
theorem dX1_carry_17 : decode cX1_carry 17 = .ok (.getfield 15, 3) := by decide +kernel
theorem dX1_carry_20 : decode cX1_carry 20 = .ok (.iload_n 1, 1) := by decide +kernel
theorem dX1_carry_21 : decode cX1_carry 21 = .ok (.laload, 1) := by decide +kernel
theorem dX1_carry_22 : decode cX1_carry 22 = .ok (.aload_n 0, 1) := by decide +kernel
theorem dX1_carry_23 : decode cX1_carry 23 = .ok (.getfield 104, 3) := by decide +kernel
theorem dX1_carry_26 : decode cX1_carry 26 = .ok (.invokestatic 131, 3) := by decide +kernel
theorem dX1_carry_29 : decode cX1_carry 29 = .ok (.ladd, 1) := by decide +kernel
theorem dX1_carry_30 : decode cX1_carry 30 = .ok (.lastore, 1) := by decide +kernel
theorem dX1_carry_31 : decode cX1_carry 31 = .ok (.aload_n 0, 1) := by decide +kernel
theorem dX1_carry_32 : decode cX1_carry 32 = .ok (.getfield 15, 3) := by decide +kernel
theorem dX1_carry_35 : decode cX1_carry 35 = .ok (.iload_n 1, 1) := by decide +kernel
theorem dX1_carry_36 : decode cX1_carry 36 = .ok (.aload_n 0, 1) := by decide +kernel
theorem dX1_carry_37 : decode cX1_carry 37 = .ok (.getfield 15, 3) := by decide +kernel
theorem dX1_carry_40 : decode cX1_carry 40 = .ok (.iload_n 1, 1) := by decide +kernel
theorem dX1_carry_41 : decode cX1_carry 41 = .ok (.laload, 1) := by decide +kernel
theorem dX1_carry_42 : decode cX1_carry 42 = .ok (.aload_n 0, 1) := by decide +kernel
theorem dX1_carry_43 : decode cX1_carry 43 = .ok (.getfield 104, 3) := by decide +kernel
theorem dX1_carry_46 : decode cX1_carry 46 = .ok (.invokestatic 135, 3) := by decide +kernel
theorem dX1_carry_49 : decode cX1_carry 49 = .ok (.lastore, 1) := by decide +kernel
theorem dX1_carry_50 : decode cX1_carry 50 = .ok (.return_, 1) := by decide +kernel
theorem dX1_findBearings_0 : decode cX1_findBearings 0 = .ok (.iconst 0, 1) := by decide +kernel
theorem dX1_findBearings_1 : decode cX1_findBearings 1 = .ok (.istore_n 2, 1) := by decide +kernel
theorem dX1_findBearings_2 : decode cX1_findBearings 2 = .ok (.iload_n 2, 1) := by decide +kernel
theorem dX1_findBearings_3 : decode cX1_findBearings 3 = .ok (.iconst 2, 1) := by decide +kernel
theorem dX1_findBearings_4 : decode cX1_findBearings 4 = .ok (.aload_n 1, 1) := by decide +kernel
theorem dX1_findBearings_5 : decode cX1_findBearings 5 = .ok (.getfield 78, 3) := by decide +kernel
theorem dX1_findBearings_8 : decode cX1_findBearings 8 = .ok (.imul, 1) := by decide +kernel
theorem dX1_findBearings_9 : decode cX1_findBearings 9 = .ok (.if_icmp .ge 135, 3) := by decide +kernel
theorem dX1_findBearings_12 : decode cX1_findBearings 12 = .ok (.bipush 9, 2) := by decide +kernel
theorem dX1_findBearings_14 : decode cX1_findBearings 14 = .ok (.iload_n 2, 1) := by decide +kernel
theorem dX1_findBearings_15 : decode cX1_findBearings 15 = .ok (.iadd, 1) := by decide +kernel
theorem dX1_findBearings_16 : decode cX1_findBearings 16 = .ok (.istore_n 3, 1) := by decide +kernel
theorem dX1_findBearings_17 : decode cX1_findBearings 17 = .ok (.aload_n 0, 1) := by decide +kernel
theorem dX1_findBearings_18 : decode cX1_findBearings 18 = .ok (.getfield 11, 3) := by decide +kernel
theorem dX1_findBearings_21 : decode cX1_findBearings 21 = .ok (.iload_n 3, 1) := by decide +kernel
theorem dX1_findBearings_22 : decode cX1_findBearings 22 = .ok (.lconst 0, 1) := by decide +kernel
theorem dX1_findBearings_23 : decode cX1_findBearings 23 = .ok (.lastore, 1) := by decide +kernel
theorem dX1_findBearings_24 : decode cX1_findBearings 24 = .ok (.aload_n 0, 1) := by decide +kernel
theorem dX1_findBearings_25 : decode cX1_findBearings 25 = .ok (.getfield 15, 3) := by decide +kernel
theorem dX1_findBearings_28 : decode cX1_findBearings 28 = .ok (.iload_n 3, 1) := by decide +kernel
theorem dX1_findBearings_29 : decode cX1_findBearings 29 = .ok (.lconst 0, 1) := by decide +kernel
theorem dX1_findBearings_30 : decode cX1_findBearings 30 = .ok (.lastore, 1) := by decide +kernel
theorem dX1_findBearings_31 : decode cX1_findBearings 31 = .ok (.aload_n 1, 1) := by decide +kernel
theorem dX1_findBearings_32 : decode cX1_findBearings 32 = .ok (.iload_n 2, 1) := by decide +kernel
theorem dX1_findBearings_33 : decode cX1_findBearings 33 = .ok (.iconst 2, 1) := by decide +kernel
theorem dX1_findBearings_34 : decode cX1_findBearings 34 = .ok (.idiv, 1) := by decide +kernel
theorem dX1_findBearings_35 : decode cX1_findBearings 35 = .ok (.iload_n 2, 1) := by decide +kernel
theorem dX1_findBearings_36 : decode cX1_findBearings 36 = .ok (.iconst 2, 1) := by decide +kernel
theorem dX1_findBearings_37 : decode cX1_findBearings 37 = .ok (.irem, 1) := by decide +kernel
theorem dX1_findBearings_38 : decode cX1_findBearings 38 = .ok (.invokevirtual 84, 3) := by decide +kernel
theorem dX1_findBearings_41 : decode cX1_findBearings 41 = .ok (.ifCond .ne 6, 3) := by decide +kernel
theorem dX1_findBearings_44 : decode cX1_findBearings 44 = .ok (.goto 94, 3) := by decide +kernel
theorem dX1_findBearings_47 : decode cX1_findBearings 47 = .ok (.aload_n 0, 1) := by decide +kernel
theorem dX1_findBearings_48 : decode cX1_findBearings 48 = .ok (.getfield 11, 3) := by decide +kernel
theorem dX1_findBearings_51 : decode cX1_findBearings 51 = .ok (.iload_n 3, 1) := by decide +kernel
theorem dX1_findBearings_52 : decode cX1_findBearings 52 = .ok (.aload_n 1, 1) := by decide +kernel
theorem dX1_findBearings_53 : decode cX1_findBearings 53 = .ok (.getfield 116, 3) := by decide +kernel
theorem dX1_findBearings_56 : decode cX1_findBearings 56 = .ok (.iload_n 2, 1) := by decide +kernel
theorem dX1_findBearings_57 : decode cX1_findBearings 57 = .ok (.iaload, 1) := by decide +kernel
theorem dX1_findBearings_58 : decode cX1_findBearings 58 = .ok (.ineg, 1) := by decide +kernel
theorem dX1_findBearings_59 : decode cX1_findBearings 59 = .ok (.i2l, 1) := by decide +kernel
theorem dX1_findBearings_60 : decode cX1_findBearings 60 = .ok (.lastore, 1) := by decide +kernel
theorem dX1_findBearings_61 : decode cX1_findBearings 61 = .ok (.iconst 0, 1) := by decide +kernel
theorem dX1_findBearings_62 : decode cX1_findBearings 62 = .ok (.istore 4, 2) := by decide +kernel
theorem dX1_findBearings_64 : decode cX1_findBearings 64 = .ok (.iload 4, 2) := by decide +kernel
theorem dX1_findBearings_66 : decode cX1_findBearings 66 = .ok (.aload_n 1, 1) := by decide +kernel
theorem dX1_findBearings_67 : decode cX1_findBearings 67 = .ok (.getfield 88, 3) := by decide +kernel
theorem dX1_findBearings_70 : decode cX1_findBearings 70 = .ok (.if_icmp .ge 63, 3) := by decide +kernel
theorem dX1_findBearings_73 : decode cX1_findBearings 73 = .ok (.aload_n 1, 1) := by decide +kernel
theorem dX1_findBearings_74 : decode cX1_findBearings 74 = .ok (.iload 4, 2) := by decide +kernel
theorem dX1_findBearings_76 : decode cX1_findBearings 76 = .ok (.iload_n 2, 1) := by decide +kernel
theorem dX1_findBearings_77 : decode cX1_findBearings 77 = .ok (.iconst 2, 1) := by decide +kernel
theorem dX1_findBearings_78 : decode cX1_findBearings 78 = .ok (.idiv, 1) := by decide +kernel
theorem dX1_findBearings_79 : decode cX1_findBearings 79 = .ok (.iload_n 2, 1) := by decide +kernel
theorem dX1_findBearings_80 : decode cX1_findBearings 80 = .ok (.iconst 2, 1) := by decide +kernel
theorem dX1_findBearings_81 : decode cX1_findBearings 81 = .ok (.irem, 1) := by decide +kernel
theorem dX1_findBearings_82 : decode cX1_findBearings 82 = .ok (.invokevirtual 112, 3) := by decide +kernel
theorem dX1_findBearings_85 : decode cX1_findBearings 85 = .ok (.istore 5, 2) := by decide +kernel
theorem dX1_findBearings_87 : decode cX1_findBearings 87 = .ok (.aload_n 0, 1) := by decide +kernel
theorem dX1_findBearings_88 : decode cX1_findBearings 88 = .ok (.getfield 11, 3) := by decide +kernel
theorem dX1_findBearings_91 : decode cX1_findBearings 91 = .ok (.iload_n 3, 1) := by decide +kernel
theorem dX1_findBearings_92 : decode cX1_findBearings 92 = .ok (.dup2, 1) := by decide +kernel
theorem dX1_findBearings_93 : decode cX1_findBearings 93 = .ok (.laload, 1) := by decide +kernel
theorem dX1_findBearings_94 : decode cX1_findBearings 94 = .ok (.iload 5, 2) := by decide +kernel
theorem dX1_findBearings_96 : decode cX1_findBearings 96 = .ok (.i2l, 1) := by decide +kernel
theorem dX1_findBearings_97 : decode cX1_findBearings 97 = .ok (.aload_n 0, 1) := by decide +kernel
theorem dX1_findBearings_98 : decode cX1_findBearings 98 = .ok (.getfield 11, 3) := by decide +kernel
theorem dX1_findBearings_101 : decode cX1_findBearings 101 = .ok (.iload 4, 2) := by decide +kernel
theorem dX1_findBearings_103 : decode cX1_findBearings 103 = .ok (.laload, 1) := by decide +kernel
theorem dX1_findBearings_104 : decode cX1_findBearings 104 = .ok (.lmul, 1) := by decide +kernel
theorem dX1_findBearings_105 : decode cX1_findBearings 105 = .ok (.lsub, 1) := by decide +kernel
theorem dX1_findBearings_106 : decode cX1_findBearings 106 = .ok (.lastore, 1) := by decide +kernel
theorem dX1_findBearings_107 : decode cX1_findBearings 107 = .ok (.aload_n 0, 1) := by decide +kernel
theorem dX1_findBearings_108 : decode cX1_findBearings 108 = .ok (.getfield 15, 3) := by decide +kernel
theorem dX1_findBearings_111 : decode cX1_findBearings 111 = .ok (.iload_n 3, 1) := by decide +kernel
theorem dX1_findBearings_112 : decode cX1_findBearings 112 = .ok (.dup2, 1) := by decide +kernel
theorem dX1_findBearings_113 : decode cX1_findBearings 113 = .ok (.laload, 1) := by decide +kernel
theorem dX1_findBearings_114 : decode cX1_findBearings 114 = .ok (.iload 5, 2) := by decide +kernel
theorem dX1_findBearings_116 : decode cX1_findBearings 116 = .ok (.i2l, 1) := by decide +kernel
theorem dX1_findBearings_117 : decode cX1_findBearings 117 = .ok (.aload_n 0, 1) := by decide +kernel
theorem dX1_findBearings_118 : decode cX1_findBearings 118 = .ok (.getfield 15, 3) := by decide +kernel
theorem dX1_findBearings_121 : decode cX1_findBearings 121 = .ok (.iload 4, 2) := by decide +kernel
theorem dX1_findBearings_123 : decode cX1_findBearings 123 = .ok (.laload, 1) := by decide +kernel
theorem dX1_findBearings_124 : decode cX1_findBearings 124 = .ok (.lmul, 1) := by decide +kernel
theorem dX1_findBearings_125 : decode cX1_findBearings 125 = .ok (.lsub, 1) := by decide +kernel
theorem dX1_findBearings_126 : decode cX1_findBearings 126 = .ok (.lastore, 1) := by decide +kernel
theorem dX1_findBearings_127 : decode cX1_findBearings 127 = .ok (.iinc 4 1, 3) := by decide +kernel
theorem dX1_findBearings_130 : decode cX1_findBearings 130 = .ok (.goto (-66), 3) := by decide +kernel
theorem dX1_findBearings_133 : decode cX1_findBearings 133 = .ok (.aload_n 0, 1) := by decide +kernel
theorem dX1_findBearings_134 : decode cX1_findBearings 134 = .ok (.iload_n 3, 1) := by decide +kernel
theorem dX1_findBearings_135 : decode cX1_findBearings 135 = .ok (.invokevirtual 138, 3) := by decide +kernel
theorem dX1_findBearings_138 : decode cX1_findBearings 138 = .ok (.iinc 2 1, 3) := by decide +kernel
theorem dX1_findBearings_141 : decode cX1_findBearings 141 = .ok (.goto (-139), 3) := by decide +kernel
theorem dX1_findBearings_144 : decode cX1_findBearings 144 = .ok (.return_, 1) := by decide +kernel
theorem dX1_findAmounts_0 : decode cX1_findAmounts 0 = .ok (.aload_n 0, 1) := by decide +kernel
theorem dX1_findAmounts_1 : decode cX1_findAmounts 1 = .ok (.getfield 47, 3) := by decide +kernel
theorem dX1_findAmounts_4 : decode cX1_findAmounts 4 = .ok (.aload_n 0, 1) := by decide +kernel
theorem dX1_findAmounts_5 : decode cX1_findAmounts 5 = .ok (.getfield 104, 3) := by decide +kernel
theorem dX1_findAmounts_8 : decode cX1_findAmounts 8 = .ok (.invokevirtual 141, 3) := by decide +kernel
theorem dX1_findAmounts_11 : decode cX1_findAmounts 11 = .ok (.iconst 0, 1) := by decide +kernel
theorem dX1_findAmounts_12 : decode cX1_findAmounts 12 = .ok (.istore_n 2, 1) := by decide +kernel
theorem dX1_findAmounts_13 : decode cX1_findAmounts 13 = .ok (.iload_n 2, 1) := by decide +kernel
theorem dX1_findAmounts_14 : decode cX1_findAmounts 14 = .ok (.aload_n 1, 1) := by decide +kernel
theorem dX1_findAmounts_15 : decode cX1_findAmounts 15 = .ok (.getfield 88, 3) := by decide +kernel
theorem dX1_findAmounts_18 : decode cX1_findAmounts 18 = .ok (.if_icmp .ge 80, 3) := by decide +kernel
theorem dX1_findAmounts_21 : decode cX1_findAmounts 21 = .ok (.aload_n 0, 1) := by decide +kernel
theorem dX1_findAmounts_22 : decode cX1_findAmounts 22 = .ok (.getfield 11, 3) := by decide +kernel
theorem dX1_findAmounts_25 : decode cX1_findAmounts 25 = .ok (.iload_n 2, 1) := by decide +kernel
theorem dX1_findAmounts_26 : decode cX1_findAmounts 26 = .ok (.laload, 1) := by decide +kernel
theorem dX1_findAmounts_27 : decode cX1_findAmounts 27 = .ok (.lstore_n 3, 1) := by decide +kernel
theorem dX1_findAmounts_28 : decode cX1_findAmounts 28 = .ok (.aload_n 0, 1) := by decide +kernel
theorem dX1_findAmounts_29 : decode cX1_findAmounts 29 = .ok (.getfield 15, 3) := by decide +kernel
theorem dX1_findAmounts_32 : decode cX1_findAmounts 32 = .ok (.iload_n 2, 1) := by decide +kernel
theorem dX1_findAmounts_33 : decode cX1_findAmounts 33 = .ok (.laload, 1) := by decide +kernel
theorem dX1_findAmounts_34 : decode cX1_findAmounts 34 = .ok (.lstore 5, 2) := by decide +kernel
theorem dX1_findAmounts_36 : decode cX1_findAmounts 36 = .ok (.aload_n 1, 1) := by decide +kernel
theorem dX1_findAmounts_37 : decode cX1_findAmounts 37 = .ok (.iload_n 2, 1) := by decide +kernel
theorem dX1_findAmounts_38 : decode cX1_findAmounts 38 = .ok (.invokevirtual 145, 3) := by decide +kernel
theorem dX1_findAmounts_41 : decode cX1_findAmounts 41 = .ok (.istore 7, 2) := by decide +kernel
theorem dX1_findAmounts_43 : decode cX1_findAmounts 43 = .ok (.lload_n 3, 1) := by decide +kernel
theorem dX1_findAmounts_44 : decode cX1_findAmounts 44 = .ok (.lconst 0, 1) := by decide +kernel
theorem dX1_findAmounts_45 : decode cX1_findAmounts 45 = .ok (.lcmp, 1) := by decide +kernel
theorem dX1_findAmounts_46 : decode cX1_findAmounts 46 = .ok (.ifCond .ge 31, 3) := by decide +kernel
theorem dX1_findAmounts_49 : decode cX1_findAmounts 49 = .ok (.aload_n 0, 1) := by decide +kernel
theorem dX1_findAmounts_50 : decode cX1_findAmounts 50 = .ok (.getfield 18, 3) := by decide +kernel
theorem dX1_findAmounts_53 : decode cX1_findAmounts 53 = .ok (.iload_n 2, 1) := by decide +kernel
theorem dX1_findAmounts_54 : decode cX1_findAmounts 54 = .ok (.aload_n 0, 1) := by decide +kernel
theorem dX1_findAmounts_55 : decode cX1_findAmounts 55 = .ok (.ldc2_w 148, 3) := by decide +kernel
theorem dX1_findAmounts_58 : decode cX1_findAmounts 58 = .ok (.lload_n 3, 1) := by decide +kernel
theorem dX1_findAmounts_59 : decode cX1_findAmounts 59 = .ok (.lsub, 1) := by decide +kernel
theorem dX1_findAmounts_60 : decode cX1_findAmounts 60 = .ok (.aload_n 0, 1) := by decide +kernel
theorem dX1_findAmounts_61 : decode cX1_findAmounts 61 = .ok (.getfield 104, 3) := by decide +kernel
theorem dX1_findAmounts_64 : decode cX1_findAmounts 64 = .ok (.lload 5, 2) := by decide +kernel
theorem dX1_findAmounts_66 : decode cX1_findAmounts 66 = .ok (.lsub, 1) := by decide +kernel
theorem dX1_findAmounts_67 : decode cX1_findAmounts 67 = .ok (.iload 7, 2) := by decide +kernel
theorem dX1_findAmounts_69 : decode cX1_findAmounts 69 = .ok (.invokevirtual 150, 3) := by decide +kernel
theorem dX1_findAmounts_72 : decode cX1_findAmounts 72 = .ok (.lneg, 1) := by decide +kernel
theorem dX1_findAmounts_73 : decode cX1_findAmounts 73 = .ok (.lastore, 1) := by decide +kernel
theorem dX1_findAmounts_74 : decode cX1_findAmounts 74 = .ok (.goto 18, 3) := by decide +kernel
theorem dX1_findAmounts_77 : decode cX1_findAmounts 77 = .ok (.aload_n 0, 1) := by decide +kernel
theorem dX1_findAmounts_78 : decode cX1_findAmounts 78 = .ok (.getfield 18, 3) := by decide +kernel
theorem dX1_findAmounts_81 : decode cX1_findAmounts 81 = .ok (.iload_n 2, 1) := by decide +kernel
theorem dX1_findAmounts_82 : decode cX1_findAmounts 82 = .ok (.aload_n 0, 1) := by decide +kernel
theorem dX1_findAmounts_83 : decode cX1_findAmounts 83 = .ok (.lload_n 3, 1) := by decide +kernel
theorem dX1_findAmounts_84 : decode cX1_findAmounts 84 = .ok (.lload 5, 2) := by decide +kernel
theorem dX1_findAmounts_86 : decode cX1_findAmounts 86 = .ok (.iload 7, 2) := by decide +kernel
theorem dX1_findAmounts_88 : decode cX1_findAmounts 88 = .ok (.invokevirtual 150, 3) := by decide +kernel
theorem dX1_findAmounts_91 : decode cX1_findAmounts 91 = .ok (.lastore, 1) := by decide +kernel
theorem dX1_findAmounts_92 : decode cX1_findAmounts 92 = .ok (.iinc 2 1, 3) := by decide +kernel
theorem dX1_findAmounts_95 : decode cX1_findAmounts 95 = .ok (.goto (-82), 3) := by decide +kernel
theorem dX1_findAmounts_98 : decode cX1_findAmounts 98 = .ok (.return_, 1) := by decide +kernel
theorem dX1_timesLength_0 : decode cX1_timesLength 0 = .ok (.aload_n 0, 1) := by decide +kernel
theorem dX1_timesLength_1 : decode cX1_timesLength 1 = .ok (.getfield 43, 3) := by decide +kernel
theorem dX1_timesLength_4 : decode cX1_timesLength 4 = .ok (.lload_n 1, 1) := by decide +kernel
theorem dX1_timesLength_5 : decode cX1_timesLength 5 = .ok (.invokevirtual 141, 3) := by decide +kernel
theorem dX1_timesLength_8 : decode cX1_timesLength 8 = .ok (.aload_n 0, 1) := by decide +kernel
theorem dX1_timesLength_9 : decode cX1_timesLength 9 = .ok (.getfield 50, 3) := by decide +kernel
theorem dX1_timesLength_12 : decode cX1_timesLength 12 = .ok (.aload_n 0, 1) := by decide +kernel
theorem dX1_timesLength_13 : decode cX1_timesLength 13 = .ok (.getfield 43, 3) := by decide +kernel
theorem dX1_timesLength_16 : decode cX1_timesLength 16 = .ok (.aload_n 0, 1) := by decide +kernel
theorem dX1_timesLength_17 : decode cX1_timesLength 17 = .ok (.getfield 47, 3) := by decide +kernel
theorem dX1_timesLength_20 : decode cX1_timesLength 20 = .ok (.invokevirtual 154, 3) := by decide +kernel
theorem dX1_timesLength_23 : decode cX1_timesLength 23 = .ok (.aload_n 0, 1) := by decide +kernel
theorem dX1_timesLength_24 : decode cX1_timesLength 24 = .ok (.getfield 50, 3) := by decide +kernel
theorem dX1_timesLength_27 : decode cX1_timesLength 27 = .ok (.lload_n 3, 1) := by decide +kernel
theorem dX1_timesLength_28 : decode cX1_timesLength 28 = .ok (.invokevirtual 158, 3) := by decide +kernel
theorem dX1_timesLength_31 : decode cX1_timesLength 31 = .ok (.aload_n 0, 1) := by decide +kernel
theorem dX1_timesLength_32 : decode cX1_timesLength 32 = .ok (.getfield 53, 3) := by decide +kernel
theorem dX1_timesLength_35 : decode cX1_timesLength 35 = .ok (.aload_n 0, 1) := by decide +kernel
theorem dX1_timesLength_36 : decode cX1_timesLength 36 = .ok (.getfield 50, 3) := by decide +kernel
theorem dX1_timesLength_39 : decode cX1_timesLength 39 = .ok (.aload_n 0, 1) := by decide +kernel
theorem dX1_timesLength_40 : decode cX1_timesLength 40 = .ok (.getfield 50, 3) := by decide +kernel
theorem dX1_timesLength_43 : decode cX1_timesLength 43 = .ok (.invokevirtual 154, 3) := by decide +kernel
theorem dX1_timesLength_46 : decode cX1_timesLength 46 = .ok (.aload_n 0, 1) := by decide +kernel
theorem dX1_timesLength_47 : decode cX1_timesLength 47 = .ok (.getfield 43, 3) := by decide +kernel
theorem dX1_timesLength_50 : decode cX1_timesLength 50 = .ok (.iload 5, 2) := by decide +kernel
theorem dX1_timesLength_52 : decode cX1_timesLength 52 = .ok (.i2l, 1) := by decide +kernel
theorem dX1_timesLength_53 : decode cX1_timesLength 53 = .ok (.invokevirtual 141, 3) := by decide +kernel
theorem dX1_timesLength_56 : decode cX1_timesLength 56 = .ok (.aload_n 0, 1) := by decide +kernel
theorem dX1_timesLength_57 : decode cX1_timesLength 57 = .ok (.getfield 56, 3) := by decide +kernel
theorem dX1_timesLength_60 : decode cX1_timesLength 60 = .ok (.aload_n 0, 1) := by decide +kernel
theorem dX1_timesLength_61 : decode cX1_timesLength 61 = .ok (.getfield 53, 3) := by decide +kernel
theorem dX1_timesLength_64 : decode cX1_timesLength 64 = .ok (.aload_n 0, 1) := by decide +kernel
theorem dX1_timesLength_65 : decode cX1_timesLength 65 = .ok (.getfield 43, 3) := by decide +kernel
theorem dX1_timesLength_68 : decode cX1_timesLength 68 = .ok (.invokevirtual 154, 3) := by decide +kernel
theorem dX1_timesLength_71 : decode cX1_timesLength 71 = .ok (.lload_n 1, 1) := by decide +kernel
theorem dX1_timesLength_72 : decode cX1_timesLength 72 = .ok (.lstore 6, 2) := by decide +kernel
theorem dX1_timesLength_74 : decode cX1_timesLength 74 = .ok (.lload_n 1, 1) := by decide +kernel
theorem dX1_timesLength_75 : decode cX1_timesLength 75 = .ok (.ldc2_w 161, 3) := by decide +kernel
theorem dX1_timesLength_78 : decode cX1_timesLength 78 = .ok (.lcmp, 1) := by decide +kernel
theorem dX1_timesLength_79 : decode cX1_timesLength 79 = .ok (.ifCond .ge 13, 3) := by decide +kernel
theorem dX1_timesLength_82 : decode cX1_timesLength 82 = .ok (.lload_n 1, 1) := by decide +kernel
theorem dX1_timesLength_83 : decode cX1_timesLength 83 = .ok (.lconst 1, 1) := by decide +kernel
theorem dX1_timesLength_84 : decode cX1_timesLength 84 = .ok (.ladd, 1) := by decide +kernel
theorem dX1_timesLength_85 : decode cX1_timesLength 85 = .ok (.ldc2_w 163, 3) := by decide +kernel
theorem dX1_timesLength_88 : decode cX1_timesLength 88 = .ok (.lmul, 1) := by decide +kernel
theorem dX1_timesLength_89 : decode cX1_timesLength 89 = .ok (.goto 6, 3) := by decide +kernel
theorem dX1_timesLength_92 : decode cX1_timesLength 92 = .ok (.ldc2_w 165, 3) := by decide +kernel
theorem dX1_timesLength_95 : decode cX1_timesLength 95 = .ok (.lstore 8, 2) := by decide +kernel
theorem dX1_timesLength_97 : decode cX1_timesLength 97 = .ok (.iconst 0, 1) := by decide +kernel
theorem dX1_timesLength_98 : decode cX1_timesLength 98 = .ok (.istore 10, 2) := by decide +kernel
theorem dX1_timesLength_100 : decode cX1_timesLength 100 = .ok (.iload 10, 2) := by decide +kernel
theorem dX1_timesLength_102 : decode cX1_timesLength 102 = .ok (.bipush 64, 2) := by decide +kernel
theorem dX1_timesLength_104 : decode cX1_timesLength 104 = .ok (.if_icmp .ge 97, 3) := by decide +kernel
theorem dX1_timesLength_107 : decode cX1_timesLength 107 = .ok (.lload 6, 2) := by decide +kernel
theorem dX1_timesLength_109 : decode cX1_timesLength 109 = .ok (.lload 8, 2) := by decide +kernel
theorem dX1_timesLength_111 : decode cX1_timesLength 111 = .ok (.lcmp, 1) := by decide +kernel
theorem dX1_timesLength_112 : decode cX1_timesLength 112 = .ok (.ifCond .ge 89, 3) := by decide +kernel
theorem dX1_timesLength_115 : decode cX1_timesLength 115 = .ok (.lload 8, 2) := by decide +kernel
theorem dX1_timesLength_117 : decode cX1_timesLength 117 = .ok (.lload 8, 2) := by decide +kernel
theorem dX1_timesLength_119 : decode cX1_timesLength 119 = .ok (.lload 6, 2) := by decide +kernel
theorem dX1_timesLength_121 : decode cX1_timesLength 121 = .ok (.lsub, 1) := by decide +kernel
theorem dX1_timesLength_122 : decode cX1_timesLength 122 = .ok (.ldc2_w 167, 3) := by decide +kernel
theorem dX1_timesLength_125 : decode cX1_timesLength 125 = .ok (.ldiv, 1) := by decide +kernel
theorem dX1_timesLength_126 : decode cX1_timesLength 126 = .ok (.lsub, 1) := by decide +kernel
theorem dX1_timesLength_127 : decode cX1_timesLength 127 = .ok (.lstore 11, 2) := by decide +kernel
theorem dX1_timesLength_129 : decode cX1_timesLength 129 = .ok (.aload_n 0, 1) := by decide +kernel
theorem dX1_timesLength_130 : decode cX1_timesLength 130 = .ok (.getfield 43, 3) := by decide +kernel
theorem dX1_timesLength_133 : decode cX1_timesLength 133 = .ok (.lload 11, 2) := by decide +kernel
theorem dX1_timesLength_135 : decode cX1_timesLength 135 = .ok (.invokevirtual 141, 3) := by decide +kernel
theorem dX1_timesLength_138 : decode cX1_timesLength 138 = .ok (.aload_n 0, 1) := by decide +kernel
theorem dX1_timesLength_139 : decode cX1_timesLength 139 = .ok (.getfield 50, 3) := by decide +kernel
theorem dX1_timesLength_142 : decode cX1_timesLength 142 = .ok (.aload_n 0, 1) := by decide +kernel
theorem dX1_timesLength_143 : decode cX1_timesLength 143 = .ok (.getfield 43, 3) := by decide +kernel
theorem dX1_timesLength_146 : decode cX1_timesLength 146 = .ok (.aload_n 0, 1) := by decide +kernel
theorem dX1_timesLength_147 : decode cX1_timesLength 147 = .ok (.getfield 47, 3) := by decide +kernel
theorem dX1_timesLength_150 : decode cX1_timesLength 150 = .ok (.invokevirtual 154, 3) := by decide +kernel
theorem dX1_timesLength_153 : decode cX1_timesLength 153 = .ok (.aload_n 0, 1) := by decide +kernel
theorem dX1_timesLength_154 : decode cX1_timesLength 154 = .ok (.getfield 53, 3) := by decide +kernel
theorem dX1_timesLength_157 : decode cX1_timesLength 157 = .ok (.aload_n 0, 1) := by decide +kernel
theorem dX1_timesLength_158 : decode cX1_timesLength 158 = .ok (.getfield 50, 3) := by decide +kernel
theorem dX1_timesLength_161 : decode cX1_timesLength 161 = .ok (.aload_n 0, 1) := by decide +kernel
theorem dX1_timesLength_162 : decode cX1_timesLength 162 = .ok (.getfield 50, 3) := by decide +kernel
theorem dX1_timesLength_165 : decode cX1_timesLength 165 = .ok (.invokevirtual 154, 3) := by decide +kernel
theorem dX1_timesLength_168 : decode cX1_timesLength 168 = .ok (.aload_n 0, 1) := by decide +kernel
theorem dX1_timesLength_169 : decode cX1_timesLength 169 = .ok (.getfield 53, 3) := by decide +kernel
theorem dX1_timesLength_172 : decode cX1_timesLength 172 = .ok (.aload_n 0, 1) := by decide +kernel
theorem dX1_timesLength_173 : decode cX1_timesLength 173 = .ok (.getfield 56, 3) := by decide +kernel
theorem dX1_timesLength_176 : decode cX1_timesLength 176 = .ok (.invokevirtual 169, 3) := by decide +kernel
theorem dX1_timesLength_179 : decode cX1_timesLength 179 = .ok (.ifCond .eq 10, 3) := by decide +kernel
theorem dX1_timesLength_182 : decode cX1_timesLength 182 = .ok (.lload 11, 2) := by decide +kernel
theorem dX1_timesLength_184 : decode cX1_timesLength 184 = .ok (.lstore 6, 2) := by decide +kernel
theorem dX1_timesLength_186 : decode cX1_timesLength 186 = .ok (.goto 9, 3) := by decide +kernel
theorem dX1_timesLength_189 : decode cX1_timesLength 189 = .ok (.lload 11, 2) := by decide +kernel
theorem dX1_timesLength_191 : decode cX1_timesLength 191 = .ok (.lconst 1, 1) := by decide +kernel
theorem dX1_timesLength_192 : decode cX1_timesLength 192 = .ok (.lsub, 1) := by decide +kernel
theorem dX1_timesLength_193 : decode cX1_timesLength 193 = .ok (.lstore 8, 2) := by decide +kernel
theorem dX1_timesLength_195 : decode cX1_timesLength 195 = .ok (.iinc 10 1, 3) := by decide +kernel
theorem dX1_timesLength_198 : decode cX1_timesLength 198 = .ok (.goto (-98), 3) := by decide +kernel
theorem dX1_timesLength_201 : decode cX1_timesLength 201 = .ok (.lload 6, 2) := by decide +kernel
theorem dX1_timesLength_203 : decode cX1_timesLength 203 = .ok (.lreturn, 1) := by decide +kernel
theorem dX1_thousandths_0 : decode cX1_thousandths 0 = .ok (.ldc2_w 173, 3) := by decide +kernel
theorem dX1_thousandths_3 : decode cX1_thousandths 3 = .ok (.aload_n 0, 1) := by decide +kernel
theorem dX1_thousandths_4 : decode cX1_thousandths 4 = .ok (.getfield 11, 3) := by decide +kernel
theorem dX1_thousandths_7 : decode cX1_thousandths 7 = .ok (.iload_n 1, 1) := by decide +kernel
theorem dX1_thousandths_8 : decode cX1_thousandths 8 = .ok (.laload, 1) := by decide +kernel
theorem dX1_thousandths_9 : decode cX1_thousandths 9 = .ok (.lmul, 1) := by decide +kernel
theorem dX1_thousandths_10 : decode cX1_thousandths 10 = .ok (.aload_n 0, 1) := by decide +kernel
theorem dX1_thousandths_11 : decode cX1_thousandths 11 = .ok (.iload_n 1, 1) := by decide +kernel
theorem dX1_thousandths_12 : decode cX1_thousandths 12 = .ok (.invokevirtual 175, 3) := by decide +kernel
theorem dX1_thousandths_15 : decode cX1_thousandths 15 = .ok (.ladd, 1) := by decide +kernel
theorem dX1_thousandths_16 : decode cX1_thousandths 16 = .ok (.lreturn, 1) := by decide +kernel
theorem dX1_restInThousandths_0 : decode cX1_restInThousandths 0 = .ok (.lconst 0, 1) := by decide +kernel
theorem dX1_restInThousandths_1 : decode cX1_restInThousandths 1 = .ok (.lstore_n 2, 1) := by decide +kernel
theorem dX1_restInThousandths_2 : decode cX1_restInThousandths 2 = .ok (.aload_n 0, 1) := by decide +kernel
theorem dX1_restInThousandths_3 : decode cX1_restInThousandths 3 = .ok (.getfield 15, 3) := by decide +kernel
theorem dX1_restInThousandths_6 : decode cX1_restInThousandths 6 = .ok (.iload_n 1, 1) := by decide +kernel
theorem dX1_restInThousandths_7 : decode cX1_restInThousandths 7 = .ok (.laload, 1) := by decide +kernel
theorem dX1_restInThousandths_8 : decode cX1_restInThousandths 8 = .ok (.lstore 4, 2) := by decide +kernel
theorem dX1_restInThousandths_10 : decode cX1_restInThousandths 10 = .ok (.iconst 0, 1) := by decide +kernel
theorem dX1_restInThousandths_11 : decode cX1_restInThousandths 11 = .ok (.istore 6, 2) := by decide +kernel
theorem dX1_restInThousandths_13 : decode cX1_restInThousandths 13 = .ok (.iload 6, 2) := by decide +kernel
theorem dX1_restInThousandths_15 : decode cX1_restInThousandths 15 = .ok (.iconst 3, 1) := by decide +kernel
theorem dX1_restInThousandths_16 : decode cX1_restInThousandths 16 = .ok (.if_icmp .ge 49, 3) := by decide +kernel
theorem dX1_restInThousandths_19 : decode cX1_restInThousandths 19 = .ok (.aload_n 0, 1) := by decide +kernel
theorem dX1_restInThousandths_20 : decode cX1_restInThousandths 20 = .ok (.getfield 104, 3) := by decide +kernel
theorem dX1_restInThousandths_23 : decode cX1_restInThousandths 23 = .ok (.lconst 0, 1) := by decide +kernel
theorem dX1_restInThousandths_24 : decode cX1_restInThousandths 24 = .ok (.lcmp, 1) := by decide +kernel
theorem dX1_restInThousandths_25 : decode cX1_restInThousandths 25 = .ok (.ifCond .le 40, 3) := by decide +kernel
theorem dX1_restInThousandths_28 : decode cX1_restInThousandths 28 = .ok (.ldc2_w 179, 3) := by decide +kernel
theorem dX1_restInThousandths_31 : decode cX1_restInThousandths 31 = .ok (.lload_n 2, 1) := by decide +kernel
theorem dX1_restInThousandths_32 : decode cX1_restInThousandths 32 = .ok (.lmul, 1) := by decide +kernel
theorem dX1_restInThousandths_33 : decode cX1_restInThousandths 33 = .ok (.ldc2_w 179, 3) := by decide +kernel
theorem dX1_restInThousandths_36 : decode cX1_restInThousandths 36 = .ok (.lload 4, 2) := by decide +kernel
theorem dX1_restInThousandths_38 : decode cX1_restInThousandths 38 = .ok (.lmul, 1) := by decide +kernel
theorem dX1_restInThousandths_39 : decode cX1_restInThousandths 39 = .ok (.aload_n 0, 1) := by decide +kernel
theorem dX1_restInThousandths_40 : decode cX1_restInThousandths 40 = .ok (.getfield 104, 3) := by decide +kernel
theorem dX1_restInThousandths_43 : decode cX1_restInThousandths 43 = .ok (.ldiv, 1) := by decide +kernel
theorem dX1_restInThousandths_44 : decode cX1_restInThousandths 44 = .ok (.ladd, 1) := by decide +kernel
theorem dX1_restInThousandths_45 : decode cX1_restInThousandths 45 = .ok (.lstore_n 2, 1) := by decide +kernel
theorem dX1_restInThousandths_46 : decode cX1_restInThousandths 46 = .ok (.ldc2_w 179, 3) := by decide +kernel
theorem dX1_restInThousandths_49 : decode cX1_restInThousandths 49 = .ok (.lload 4, 2) := by decide +kernel
theorem dX1_restInThousandths_51 : decode cX1_restInThousandths 51 = .ok (.lmul, 1) := by decide +kernel
theorem dX1_restInThousandths_52 : decode cX1_restInThousandths 52 = .ok (.aload_n 0, 1) := by decide +kernel
theorem dX1_restInThousandths_53 : decode cX1_restInThousandths 53 = .ok (.getfield 104, 3) := by decide +kernel
theorem dX1_restInThousandths_56 : decode cX1_restInThousandths 56 = .ok (.lrem, 1) := by decide +kernel
theorem dX1_restInThousandths_57 : decode cX1_restInThousandths 57 = .ok (.lstore 4, 2) := by decide +kernel
theorem dX1_restInThousandths_59 : decode cX1_restInThousandths 59 = .ok (.iinc 6 1, 3) := by decide +kernel
theorem dX1_restInThousandths_62 : decode cX1_restInThousandths 62 = .ok (.goto (-49), 3) := by decide +kernel
theorem dX1_restInThousandths_65 : decode cX1_restInThousandths 65 = .ok (.lload_n 2, 1) := by decide +kernel
theorem dX1_restInThousandths_66 : decode cX1_restInThousandths 66 = .ok (.lreturn, 1) := by decide +kernel
theorem dX1_sumOfThousandths_0 : decode cX1_sumOfThousandths 0 = .ok (.lconst 0, 1) := by decide +kernel
theorem dX1_sumOfThousandths_1 : decode cX1_sumOfThousandths 1 = .ok (.lstore_n 2, 1) := by decide +kernel
theorem dX1_sumOfThousandths_2 : decode cX1_sumOfThousandths 2 = .ok (.lconst 0, 1) := by decide +kernel
theorem dX1_sumOfThousandths_3 : decode cX1_sumOfThousandths 3 = .ok (.lstore 4, 2) := by decide +kernel
theorem dX1_sumOfThousandths_5 : decode cX1_sumOfThousandths 5 = .ok (.iconst 0, 1) := by decide +kernel
theorem dX1_sumOfThousandths_6 : decode cX1_sumOfThousandths 6 = .ok (.istore 6, 2) := by decide +kernel
theorem dX1_sumOfThousandths_8 : decode cX1_sumOfThousandths 8 = .ok (.iload 6, 2) := by decide +kernel
theorem dX1_sumOfThousandths_10 : decode cX1_sumOfThousandths 10 = .ok (.iload_n 1, 1) := by decide +kernel
theorem dX1_sumOfThousandths_11 : decode cX1_sumOfThousandths 11 = .ok (.if_icmp .ge 53, 3) := by decide +kernel
theorem dX1_sumOfThousandths_14 : decode cX1_sumOfThousandths 14 = .ok (.lload_n 2, 1) := by decide +kernel
theorem dX1_sumOfThousandths_15 : decode cX1_sumOfThousandths 15 = .ok (.ldc2_w 173, 3) := by decide +kernel
theorem dX1_sumOfThousandths_18 : decode cX1_sumOfThousandths 18 = .ok (.aload_n 0, 1) := by decide +kernel
theorem dX1_sumOfThousandths_19 : decode cX1_sumOfThousandths 19 = .ok (.getfield 11, 3) := by decide +kernel
theorem dX1_sumOfThousandths_22 : decode cX1_sumOfThousandths 22 = .ok (.iload 6, 2) := by decide +kernel
theorem dX1_sumOfThousandths_24 : decode cX1_sumOfThousandths 24 = .ok (.laload, 1) := by decide +kernel
theorem dX1_sumOfThousandths_25 : decode cX1_sumOfThousandths 25 = .ok (.bipush 32, 2) := by decide +kernel
theorem dX1_sumOfThousandths_27 : decode cX1_sumOfThousandths 27 = .ok (.lshr, 1) := by decide +kernel
theorem dX1_sumOfThousandths_28 : decode cX1_sumOfThousandths 28 = .ok (.lmul, 1) := by decide +kernel
theorem dX1_sumOfThousandths_29 : decode cX1_sumOfThousandths 29 = .ok (.ladd, 1) := by decide +kernel
theorem dX1_sumOfThousandths_30 : decode cX1_sumOfThousandths 30 = .ok (.lstore_n 2, 1) := by decide +kernel
theorem dX1_sumOfThousandths_31 : decode cX1_sumOfThousandths 31 = .ok (.lload 4, 2) := by decide +kernel
theorem dX1_sumOfThousandths_33 : decode cX1_sumOfThousandths 33 = .ok (.ldc2_w 173, 3) := by decide +kernel
theorem dX1_sumOfThousandths_36 : decode cX1_sumOfThousandths 36 = .ok (.aload_n 0, 1) := by decide +kernel
theorem dX1_sumOfThousandths_37 : decode cX1_sumOfThousandths 37 = .ok (.getfield 11, 3) := by decide +kernel
theorem dX1_sumOfThousandths_40 : decode cX1_sumOfThousandths 40 = .ok (.iload 6, 2) := by decide +kernel
theorem dX1_sumOfThousandths_42 : decode cX1_sumOfThousandths 42 = .ok (.laload, 1) := by decide +kernel
theorem dX1_sumOfThousandths_43 : decode cX1_sumOfThousandths 43 = .ok (.ldc2_w 181, 3) := by decide +kernel
theorem dX1_sumOfThousandths_46 : decode cX1_sumOfThousandths 46 = .ok (.land, 1) := by decide +kernel
theorem dX1_sumOfThousandths_47 : decode cX1_sumOfThousandths 47 = .ok (.lmul, 1) := by decide +kernel
theorem dX1_sumOfThousandths_48 : decode cX1_sumOfThousandths 48 = .ok (.aload_n 0, 1) := by decide +kernel
theorem dX1_sumOfThousandths_49 : decode cX1_sumOfThousandths 49 = .ok (.iload 6, 2) := by decide +kernel
theorem dX1_sumOfThousandths_51 : decode cX1_sumOfThousandths 51 = .ok (.invokevirtual 175, 3) := by decide +kernel
theorem dX1_sumOfThousandths_54 : decode cX1_sumOfThousandths 54 = .ok (.ladd, 1) := by decide +kernel
theorem dX1_sumOfThousandths_55 : decode cX1_sumOfThousandths 55 = .ok (.ladd, 1) := by decide +kernel
theorem dX1_sumOfThousandths_56 : decode cX1_sumOfThousandths 56 = .ok (.lstore 4, 2) := by decide +kernel
theorem dX1_sumOfThousandths_58 : decode cX1_sumOfThousandths 58 = .ok (.iinc 6 1, 3) := by decide +kernel
theorem dX1_sumOfThousandths_61 : decode cX1_sumOfThousandths 61 = .ok (.goto (-53), 3) := by decide +kernel
theorem dX1_sumOfThousandths_64 : decode cX1_sumOfThousandths 64 = .ok (.lload_n 2, 1) := by decide +kernel
theorem dX1_sumOfThousandths_65 : decode cX1_sumOfThousandths 65 = .ok (.l2d, 1) := by decide +kernel
theorem dX1_sumOfThousandths_66 : decode cX1_sumOfThousandths 66 = .ok (.ldc2_w 183, 3) := by decide +kernel
theorem dX1_sumOfThousandths_69 : decode cX1_sumOfThousandths 69 = .ok (.dmul, 1) := by decide +kernel
theorem dX1_sumOfThousandths_70 : decode cX1_sumOfThousandths 70 = .ok (.lload 4, 2) := by decide +kernel
theorem dX1_sumOfThousandths_72 : decode cX1_sumOfThousandths 72 = .ok (.l2d, 1) := by decide +kernel
theorem dX1_sumOfThousandths_73 : decode cX1_sumOfThousandths 73 = .ok (.dadd, 1) := by decide +kernel
theorem dX1_sumOfThousandths_74 : decode cX1_sumOfThousandths 74 = .ok (.dreturn, 1) := by decide +kernel
theorem dX1_holdsAt_0 : decode cX1_holdsAt 0 = .ok (.aload_n 0, 1) := by decide +kernel
theorem dX1_holdsAt_1 : decode cX1_holdsAt 1 = .ok (.aload_n 1, 1) := by decide +kernel
theorem dX1_holdsAt_2 : decode cX1_holdsAt 2 = .ok (.iload_n 2, 1) := by decide +kernel
theorem dX1_holdsAt_3 : decode cX1_holdsAt 3 = .ok (.iconst 0, 1) := by decide +kernel
theorem dX1_holdsAt_4 : decode cX1_holdsAt 4 = .ok (.invokevirtual 185, 3) := by decide +kernel
theorem dX1_holdsAt_7 : decode cX1_holdsAt 7 = .ok (.ifCond .eq 17, 3) := by decide +kernel
theorem dX1_holdsAt_10 : decode cX1_holdsAt 10 = .ok (.aload_n 0, 1) := by decide +kernel
theorem dX1_holdsAt_11 : decode cX1_holdsAt 11 = .ok (.aload_n 1, 1) := by decide +kernel
theorem dX1_holdsAt_12 : decode cX1_holdsAt 12 = .ok (.iload_n 2, 1) := by decide +kernel
theorem dX1_holdsAt_13 : decode cX1_holdsAt 13 = .ok (.iconst 1, 1) := by decide +kernel
theorem dX1_holdsAt_14 : decode cX1_holdsAt 14 = .ok (.invokevirtual 185, 3) := by decide +kernel
theorem dX1_holdsAt_17 : decode cX1_holdsAt 17 = .ok (.ifCond .eq 7, 3) := by decide +kernel
theorem dX1_holdsAt_20 : decode cX1_holdsAt 20 = .ok (.iconst 1, 1) := by decide +kernel
theorem dX1_holdsAt_21 : decode cX1_holdsAt 21 = .ok (.goto 4, 3) := by decide +kernel
theorem dX1_holdsAt_24 : decode cX1_holdsAt 24 = .ok (.iconst 0, 1) := by decide +kernel
theorem dX1_holdsAt_25 : decode cX1_holdsAt 25 = .ok (.ireturn, 1) := by decide +kernel
theorem dX1_holdsAlong_0 : decode cX1_holdsAlong 0 = .ok (.lconst 0, 1) := by decide +kernel
theorem dX1_holdsAlong_1 : decode cX1_holdsAlong 1 = .ok (.lstore 4, 2) := by decide +kernel
theorem dX1_holdsAlong_3 : decode cX1_holdsAlong 3 = .ok (.lconst 0, 1) := by decide +kernel
theorem dX1_holdsAlong_4 : decode cX1_holdsAlong 4 = .ok (.lstore 6, 2) := by decide +kernel
theorem dX1_holdsAlong_6 : decode cX1_holdsAlong 6 = .ok (.iconst 0, 1) := by decide +kernel
theorem dX1_holdsAlong_7 : decode cX1_holdsAlong 7 = .ok (.istore 8, 2) := by decide +kernel
theorem dX1_holdsAlong_9 : decode cX1_holdsAlong 9 = .ok (.iload 8, 2) := by decide +kernel
theorem dX1_holdsAlong_11 : decode cX1_holdsAlong 11 = .ok (.aload_n 1, 1) := by decide +kernel
theorem dX1_holdsAlong_12 : decode cX1_holdsAlong 12 = .ok (.getfield 78, 3) := by decide +kernel
theorem dX1_holdsAlong_15 : decode cX1_holdsAlong 15 = .ok (.if_icmp .ge 165, 3) := by decide +kernel
theorem dX1_holdsAlong_18 : decode cX1_holdsAlong 18 = .ok (.aload_n 1, 1) := by decide +kernel
theorem dX1_holdsAlong_19 : decode cX1_holdsAlong 19 = .ok (.getfield 189, 3) := by decide +kernel
theorem dX1_holdsAlong_22 : decode cX1_holdsAlong 22 = .ok (.iconst 2, 1) := by decide +kernel
theorem dX1_holdsAlong_23 : decode cX1_holdsAlong 23 = .ok (.iload 8, 2) := by decide +kernel
theorem dX1_holdsAlong_25 : decode cX1_holdsAlong 25 = .ok (.imul, 1) := by decide +kernel
theorem dX1_holdsAlong_26 : decode cX1_holdsAlong 26 = .ok (.iconst 0, 1) := by decide +kernel
theorem dX1_holdsAlong_27 : decode cX1_holdsAlong 27 = .ok (.iadd, 1) := by decide +kernel
theorem dX1_holdsAlong_28 : decode cX1_holdsAlong 28 = .ok (.iaload, 1) := by decide +kernel
theorem dX1_holdsAlong_29 : decode cX1_holdsAlong 29 = .ok (.iload_n 2, 1) := by decide +kernel
theorem dX1_holdsAlong_30 : decode cX1_holdsAlong 30 = .ok (.if_icmp .le 6, 3) := by decide +kernel
theorem dX1_holdsAlong_33 : decode cX1_holdsAlong 33 = .ok (.goto 141, 3) := by decide +kernel
theorem dX1_holdsAlong_36 : decode cX1_holdsAlong 36 = .ok (.lload 4, 2) := by decide +kernel
theorem dX1_holdsAlong_38 : decode cX1_holdsAlong 38 = .ok (.aload_n 1, 1) := by decide +kernel
theorem dX1_holdsAlong_39 : decode cX1_holdsAlong 39 = .ok (.getfield 116, 3) := by decide +kernel
theorem dX1_holdsAlong_42 : decode cX1_holdsAlong 42 = .ok (.iconst 2, 1) := by decide +kernel
theorem dX1_holdsAlong_43 : decode cX1_holdsAlong 43 = .ok (.iload 8, 2) := by decide +kernel
theorem dX1_holdsAlong_45 : decode cX1_holdsAlong 45 = .ok (.imul, 1) := by decide +kernel
theorem dX1_holdsAlong_46 : decode cX1_holdsAlong 46 = .ok (.iload_n 3, 1) := by decide +kernel
theorem dX1_holdsAlong_47 : decode cX1_holdsAlong 47 = .ok (.iadd, 1) := by decide +kernel
theorem dX1_holdsAlong_48 : decode cX1_holdsAlong 48 = .ok (.iaload, 1) := by decide +kernel
theorem dX1_holdsAlong_49 : decode cX1_holdsAlong 49 = .ok (.i2l, 1) := by decide +kernel
theorem dX1_holdsAlong_50 : decode cX1_holdsAlong 50 = .ok (.aload_n 0, 1) := by decide +kernel
theorem dX1_holdsAlong_51 : decode cX1_holdsAlong 51 = .ok (.getfield 11, 3) := by decide +kernel
theorem dX1_holdsAlong_54 : decode cX1_holdsAlong 54 = .ok (.aload_n 0, 1) := by decide +kernel
theorem dX1_holdsAlong_55 : decode cX1_holdsAlong 55 = .ok (.iload 8, 2) := by decide +kernel
theorem dX1_holdsAlong_57 : decode cX1_holdsAlong 57 = .ok (.iload_n 3, 1) := by decide +kernel
theorem dX1_holdsAlong_58 : decode cX1_holdsAlong 58 = .ok (.invokevirtual 192, 3) := by decide +kernel
theorem dX1_holdsAlong_61 : decode cX1_holdsAlong 61 = .ok (.laload, 1) := by decide +kernel
theorem dX1_holdsAlong_62 : decode cX1_holdsAlong 62 = .ok (.ladd, 1) := by decide +kernel
theorem dX1_holdsAlong_63 : decode cX1_holdsAlong 63 = .ok (.ladd, 1) := by decide +kernel
theorem dX1_holdsAlong_64 : decode cX1_holdsAlong 64 = .ok (.lstore 4, 2) := by decide +kernel
theorem dX1_holdsAlong_66 : decode cX1_holdsAlong 66 = .ok (.lload 6, 2) := by decide +kernel
theorem dX1_holdsAlong_68 : decode cX1_holdsAlong 68 = .ok (.aload_n 0, 1) := by decide +kernel
theorem dX1_holdsAlong_69 : decode cX1_holdsAlong 69 = .ok (.getfield 15, 3) := by decide +kernel
theorem dX1_holdsAlong_72 : decode cX1_holdsAlong 72 = .ok (.aload_n 0, 1) := by decide +kernel
theorem dX1_holdsAlong_73 : decode cX1_holdsAlong 73 = .ok (.iload 8, 2) := by decide +kernel
theorem dX1_holdsAlong_75 : decode cX1_holdsAlong 75 = .ok (.iload_n 3, 1) := by decide +kernel
theorem dX1_holdsAlong_76 : decode cX1_holdsAlong 76 = .ok (.invokevirtual 192, 3) := by decide +kernel
theorem dX1_holdsAlong_79 : decode cX1_holdsAlong 79 = .ok (.laload, 1) := by decide +kernel
theorem dX1_holdsAlong_80 : decode cX1_holdsAlong 80 = .ok (.ladd, 1) := by decide +kernel
theorem dX1_holdsAlong_81 : decode cX1_holdsAlong 81 = .ok (.lstore 6, 2) := by decide +kernel
theorem dX1_holdsAlong_83 : decode cX1_holdsAlong 83 = .ok (.iconst 0, 1) := by decide +kernel
theorem dX1_holdsAlong_84 : decode cX1_holdsAlong 84 = .ok (.istore 9, 2) := by decide +kernel
theorem dX1_holdsAlong_86 : decode cX1_holdsAlong 86 = .ok (.iload 9, 2) := by decide +kernel
theorem dX1_holdsAlong_88 : decode cX1_holdsAlong 88 = .ok (.aload_n 1, 1) := by decide +kernel
theorem dX1_holdsAlong_89 : decode cX1_holdsAlong 89 = .ok (.getfield 88, 3) := by decide +kernel
theorem dX1_holdsAlong_92 : decode cX1_holdsAlong 92 = .ok (.if_icmp .ge 82, 3) := by decide +kernel
theorem dX1_holdsAlong_95 : decode cX1_holdsAlong 95 = .ok (.aload_n 1, 1) := by decide +kernel
theorem dX1_holdsAlong_96 : decode cX1_holdsAlong 96 = .ok (.iload 9, 2) := by decide +kernel
theorem dX1_holdsAlong_98 : decode cX1_holdsAlong 98 = .ok (.iload 8, 2) := by decide +kernel
theorem dX1_holdsAlong_100 : decode cX1_holdsAlong 100 = .ok (.invokevirtual 196, 3) := by decide +kernel
theorem dX1_holdsAlong_103 : decode cX1_holdsAlong 103 = .ok (.istore 10, 2) := by decide +kernel
theorem dX1_holdsAlong_105 : decode cX1_holdsAlong 105 = .ok (.iload 10, 2) := by decide +kernel
theorem dX1_holdsAlong_107 : decode cX1_holdsAlong 107 = .ok (.ifCond .lt 61, 3) := by decide +kernel
theorem dX1_holdsAlong_110 : decode cX1_holdsAlong 110 = .ok (.aload_n 1, 1) := by decide +kernel
theorem dX1_holdsAlong_111 : decode cX1_holdsAlong 111 = .ok (.getfield 189, 3) := by decide +kernel
theorem dX1_holdsAlong_114 : decode cX1_holdsAlong 114 = .ok (.iconst 2, 1) := by decide +kernel
theorem dX1_holdsAlong_115 : decode cX1_holdsAlong 115 = .ok (.iload 10, 2) := by decide +kernel
theorem dX1_holdsAlong_117 : decode cX1_holdsAlong 117 = .ok (.imul, 1) := by decide +kernel
theorem dX1_holdsAlong_118 : decode cX1_holdsAlong 118 = .ok (.iconst 0, 1) := by decide +kernel
theorem dX1_holdsAlong_119 : decode cX1_holdsAlong 119 = .ok (.iadd, 1) := by decide +kernel
theorem dX1_holdsAlong_120 : decode cX1_holdsAlong 120 = .ok (.iaload, 1) := by decide +kernel
theorem dX1_holdsAlong_121 : decode cX1_holdsAlong 121 = .ok (.iload_n 2, 1) := by decide +kernel
theorem dX1_holdsAlong_122 : decode cX1_holdsAlong 122 = .ok (.if_icmp .le 46, 3) := by decide +kernel
theorem dX1_holdsAlong_125 : decode cX1_holdsAlong 125 = .ok (.aload_n 1, 1) := by decide +kernel
theorem dX1_holdsAlong_126 : decode cX1_holdsAlong 126 = .ok (.iload 9, 2) := by decide +kernel
theorem dX1_holdsAlong_128 : decode cX1_holdsAlong 128 = .ok (.iload 8, 2) := by decide +kernel
theorem dX1_holdsAlong_130 : decode cX1_holdsAlong 130 = .ok (.iload_n 3, 1) := by decide +kernel
theorem dX1_holdsAlong_131 : decode cX1_holdsAlong 131 = .ok (.invokevirtual 112, 3) := by decide +kernel
theorem dX1_holdsAlong_134 : decode cX1_holdsAlong 134 = .ok (.istore 11, 2) := by decide +kernel
theorem dX1_holdsAlong_136 : decode cX1_holdsAlong 136 = .ok (.lload 4, 2) := by decide +kernel
theorem dX1_holdsAlong_138 : decode cX1_holdsAlong 138 = .ok (.iload 11, 2) := by decide +kernel
theorem dX1_holdsAlong_140 : decode cX1_holdsAlong 140 = .ok (.i2l, 1) := by decide +kernel
theorem dX1_holdsAlong_141 : decode cX1_holdsAlong 141 = .ok (.aload_n 0, 1) := by decide +kernel
theorem dX1_holdsAlong_142 : decode cX1_holdsAlong 142 = .ok (.getfield 11, 3) := by decide +kernel
theorem dX1_holdsAlong_145 : decode cX1_holdsAlong 145 = .ok (.iload 9, 2) := by decide +kernel
theorem dX1_holdsAlong_147 : decode cX1_holdsAlong 147 = .ok (.laload, 1) := by decide +kernel
theorem dX1_holdsAlong_148 : decode cX1_holdsAlong 148 = .ok (.lmul, 1) := by decide +kernel
theorem dX1_holdsAlong_149 : decode cX1_holdsAlong 149 = .ok (.ladd, 1) := by decide +kernel
theorem dX1_holdsAlong_150 : decode cX1_holdsAlong 150 = .ok (.lstore 4, 2) := by decide +kernel
theorem dX1_holdsAlong_152 : decode cX1_holdsAlong 152 = .ok (.lload 6, 2) := by decide +kernel
theorem dX1_holdsAlong_154 : decode cX1_holdsAlong 154 = .ok (.iload 11, 2) := by decide +kernel
theorem dX1_holdsAlong_156 : decode cX1_holdsAlong 156 = .ok (.i2l, 1) := by decide +kernel
theorem dX1_holdsAlong_157 : decode cX1_holdsAlong 157 = .ok (.aload_n 0, 1) := by decide +kernel
theorem dX1_holdsAlong_158 : decode cX1_holdsAlong 158 = .ok (.getfield 15, 3) := by decide +kernel
theorem dX1_holdsAlong_161 : decode cX1_holdsAlong 161 = .ok (.iload 9, 2) := by decide +kernel
theorem dX1_holdsAlong_163 : decode cX1_holdsAlong 163 = .ok (.laload, 1) := by decide +kernel
theorem dX1_holdsAlong_164 : decode cX1_holdsAlong 164 = .ok (.lmul, 1) := by decide +kernel
theorem dX1_holdsAlong_165 : decode cX1_holdsAlong 165 = .ok (.ladd, 1) := by decide +kernel
theorem dX1_holdsAlong_166 : decode cX1_holdsAlong 166 = .ok (.lstore 6, 2) := by decide +kernel
theorem dX1_holdsAlong_168 : decode cX1_holdsAlong 168 = .ok (.iinc 9 1, 3) := by decide +kernel
theorem dX1_holdsAlong_171 : decode cX1_holdsAlong 171 = .ok (.goto (-85), 3) := by decide +kernel
theorem dX1_holdsAlong_174 : decode cX1_holdsAlong 174 = .ok (.iinc 8 1, 3) := by decide +kernel
theorem dX1_holdsAlong_177 : decode cX1_holdsAlong 177 = .ok (.goto (-168), 3) := by decide +kernel
theorem dX1_holdsAlong_180 : decode cX1_holdsAlong 180 = .ok (.aload_n 0, 1) := by decide +kernel
theorem dX1_holdsAlong_181 : decode cX1_holdsAlong 181 = .ok (.getfield 104, 3) := by decide +kernel
theorem dX1_holdsAlong_184 : decode cX1_holdsAlong 184 = .ok (.lconst 0, 1) := by decide +kernel
theorem dX1_holdsAlong_185 : decode cX1_holdsAlong 185 = .ok (.lcmp, 1) := by decide +kernel
theorem dX1_holdsAlong_186 : decode cX1_holdsAlong 186 = .ok (.ifCond .le 34, 3) := by decide +kernel
theorem dX1_holdsAlong_189 : decode cX1_holdsAlong 189 = .ok (.lload 6, 2) := by decide +kernel
theorem dX1_holdsAlong_191 : decode cX1_holdsAlong 191 = .ok (.aload_n 0, 1) := by decide +kernel
theorem dX1_holdsAlong_192 : decode cX1_holdsAlong 192 = .ok (.getfield 104, 3) := by decide +kernel
theorem dX1_holdsAlong_195 : decode cX1_holdsAlong 195 = .ok (.lrem, 1) := by decide +kernel
theorem dX1_holdsAlong_196 : decode cX1_holdsAlong 196 = .ok (.lconst 0, 1) := by decide +kernel
theorem dX1_holdsAlong_197 : decode cX1_holdsAlong 197 = .ok (.lcmp, 1) := by decide +kernel
theorem dX1_holdsAlong_198 : decode cX1_holdsAlong 198 = .ok (.ifCond .ne 22, 3) := by decide +kernel
theorem dX1_holdsAlong_201 : decode cX1_holdsAlong 201 = .ok (.lload 4, 2) := by decide +kernel
theorem dX1_holdsAlong_203 : decode cX1_holdsAlong 203 = .ok (.lload 6, 2) := by decide +kernel
theorem dX1_holdsAlong_205 : decode cX1_holdsAlong 205 = .ok (.aload_n 0, 1) := by decide +kernel
theorem dX1_holdsAlong_206 : decode cX1_holdsAlong 206 = .ok (.getfield 104, 3) := by decide +kernel
theorem dX1_holdsAlong_209 : decode cX1_holdsAlong 209 = .ok (.ldiv, 1) := by decide +kernel
theorem dX1_holdsAlong_210 : decode cX1_holdsAlong 210 = .ok (.ladd, 1) := by decide +kernel
theorem dX1_holdsAlong_211 : decode cX1_holdsAlong 211 = .ok (.lconst 0, 1) := by decide +kernel
theorem dX1_holdsAlong_212 : decode cX1_holdsAlong 212 = .ok (.lcmp, 1) := by decide +kernel
theorem dX1_holdsAlong_213 : decode cX1_holdsAlong 213 = .ok (.ifCond .ne 7, 3) := by decide +kernel
theorem dX1_holdsAlong_216 : decode cX1_holdsAlong 216 = .ok (.iconst 1, 1) := by decide +kernel
theorem dX1_holdsAlong_217 : decode cX1_holdsAlong 217 = .ok (.goto 4, 3) := by decide +kernel
theorem dX1_holdsAlong_220 : decode cX1_holdsAlong 220 = .ok (.iconst 0, 1) := by decide +kernel
theorem dX1_holdsAlong_221 : decode cX1_holdsAlong 221 = .ok (.ireturn, 1) := by decide +kernel
theorem dX2_init_0 : decode cX2_init 0 = .ok (.aload_n 0, 1) := by decide +kernel
theorem dX2_init_1 : decode cX2_init 1 = .ok (.invokespecial 3, 3) := by decide +kernel
theorem dX2_init_4 : decode cX2_init 4 = .ok (.aload_n 0, 1) := by decide +kernel
theorem dX2_init_5 : decode cX2_init 5 = .ok (.bipush 16, 2) := by decide +kernel
theorem dX2_init_7 : decode cX2_init 7 = .ok (.newarray .int, 2) := by decide +kernel
theorem dX2_init_9 : decode cX2_init 9 = .ok (.putfield 9, 3) := by decide +kernel
theorem dX2_init_12 : decode cX2_init 12 = .ok (.aload_n 0, 1) := by decide +kernel
theorem dX2_init_13 : decode cX2_init 13 = .ok (.bipush 16, 2) := by decide +kernel
theorem dX2_init_15 : decode cX2_init 15 = .ok (.newarray .int, 2) := by decide +kernel
theorem dX2_init_17 : decode cX2_init 17 = .ok (.putfield 15, 3) := by decide +kernel
theorem dX2_init_20 : decode cX2_init 20 = .ok (.aload_n 0, 1) := by decide +kernel
theorem dX2_init_21 : decode cX2_init 21 = .ok (.bipush 8, 2) := by decide +kernel
theorem dX2_init_23 : decode cX2_init 23 = .ok (.newarray .int, 2) := by decide +kernel
theorem dX2_init_25 : decode cX2_init 25 = .ok (.putfield 18, 3) := by decide +kernel
theorem dX2_init_28 : decode cX2_init 28 = .ok (.aload_n 0, 1) := by decide +kernel
theorem dX2_init_29 : decode cX2_init 29 = .ok (.bipush 8, 2) := by decide +kernel
theorem dX2_init_31 : decode cX2_init 31 = .ok (.newarray .char, 2) := by decide +kernel
theorem dX2_init_33 : decode cX2_init 33 = .ok (.putfield 21, 3) := by decide +kernel
theorem dX2_init_36 : decode cX2_init 36 = .ok (.aload_n 0, 1) := by decide +kernel
theorem dX2_init_37 : decode cX2_init 37 = .ok (.bipush 9, 2) := by decide +kernel
theorem dX2_init_39 : decode cX2_init 39 = .ok (.newarray .int, 2) := by decide +kernel
theorem dX2_init_41 : decode cX2_init 41 = .ok (.putfield 25, 3) := by decide +kernel
theorem dX2_init_44 : decode cX2_init 44 = .ok (.aload_n 0, 1) := by decide +kernel
theorem dX2_init_45 : decode cX2_init 45 = .ok (.bipush 9, 2) := by decide +kernel
theorem dX2_init_47 : decode cX2_init 47 = .ok (.newarray .int, 2) := by decide +kernel
theorem dX2_init_49 : decode cX2_init 49 = .ok (.putfield 28, 3) := by decide +kernel
theorem dX2_init_52 : decode cX2_init 52 = .ok (.aload_n 0, 1) := by decide +kernel
theorem dX2_init_53 : decode cX2_init 53 = .ok (.bipush 9, 2) := by decide +kernel
theorem dX2_init_55 : decode cX2_init 55 = .ok (.newarray .int, 2) := by decide +kernel
theorem dX2_init_57 : decode cX2_init 57 = .ok (.putfield 31, 3) := by decide +kernel
theorem dX2_init_60 : decode cX2_init 60 = .ok (.aload_n 0, 1) := by decide +kernel
theorem dX2_init_61 : decode cX2_init 61 = .ok (.bipush 9, 2) := by decide +kernel
theorem dX2_init_63 : decode cX2_init 63 = .ok (.newarray .int, 2) := by decide +kernel
theorem dX2_init_65 : decode cX2_init 65 = .ok (.putfield 34, 3) := by decide +kernel
theorem dX2_init_68 : decode cX2_init 68 = .ok (.aload_n 0, 1) := by decide +kernel
theorem dX2_init_69 : decode cX2_init 69 = .ok (.bipush 9, 2) := by decide +kernel
theorem dX2_init_71 : decode cX2_init 71 = .ok (.newarray .int, 2) := by decide +kernel
theorem dX2_init_73 : decode cX2_init 73 = .ok (.putfield 37, 3) := by decide +kernel
theorem dX2_init_76 : decode cX2_init 76 = .ok (.aload_n 0, 1) := by decide +kernel
theorem dX2_init_77 : decode cX2_init 77 = .ok (.bipush 9, 2) := by decide +kernel
theorem dX2_init_79 : decode cX2_init 79 = .ok (.newarray .int, 2) := by decide +kernel
theorem dX2_init_81 : decode cX2_init 81 = .ok (.putfield 40, 3) := by decide +kernel
theorem dX2_init_84 : decode cX2_init 84 = .ok (.return_, 1) := by decide +kernel
theorem dX2_addNode_0 : decode cX2_addNode 0 = .ok (.aload_n 0, 1) := by decide +kernel
theorem dX2_addNode_1 : decode cX2_addNode 1 = .ok (.getfield 43, 3) := by decide +kernel
theorem dX2_addNode_4 : decode cX2_addNode 4 = .ok (.istore 4, 2) := by decide +kernel
theorem dX2_addNode_6 : decode cX2_addNode 6 = .ok (.aload_n 0, 1) := by decide +kernel
theorem dX2_addNode_7 : decode cX2_addNode 7 = .ok (.getfield 9, 3) := by decide +kernel
theorem dX2_addNode_10 : decode cX2_addNode 10 = .ok (.iconst 2, 1) := by decide +kernel
theorem dX2_addNode_11 : decode cX2_addNode 11 = .ok (.iload 4, 2) := by decide +kernel
theorem dX2_addNode_13 : decode cX2_addNode 13 = .ok (.imul, 1) := by decide +kernel
theorem dX2_addNode_14 : decode cX2_addNode 14 = .ok (.iconst 0, 1) := by decide +kernel
theorem dX2_addNode_15 : decode cX2_addNode 15 = .ok (.iadd, 1) := by decide +kernel
theorem dX2_addNode_16 : decode cX2_addNode 16 = .ok (.iload_n 1, 1) := by decide +kernel
theorem dX2_addNode_17 : decode cX2_addNode 17 = .ok (.iastore, 1) := by decide +kernel
theorem dX2_addNode_18 : decode cX2_addNode 18 = .ok (.aload_n 0, 1) := by decide +kernel
theorem dX2_addNode_19 : decode cX2_addNode 19 = .ok (.getfield 9, 3) := by decide +kernel
theorem dX2_addNode_22 : decode cX2_addNode 22 = .ok (.iconst 2, 1) := by decide +kernel
theorem dX2_addNode_23 : decode cX2_addNode 23 = .ok (.iload 4, 2) := by decide +kernel
theorem dX2_addNode_25 : decode cX2_addNode 25 = .ok (.imul, 1) := by decide +kernel
theorem dX2_addNode_26 : decode cX2_addNode 26 = .ok (.iconst 1, 1) := by decide +kernel
theorem dX2_addNode_27 : decode cX2_addNode 27 = .ok (.iadd, 1) := by decide +kernel
theorem dX2_addNode_28 : decode cX2_addNode 28 = .ok (.iload_n 2, 1) := by decide +kernel
theorem dX2_addNode_29 : decode cX2_addNode 29 = .ok (.iastore, 1) := by decide +kernel
theorem dX2_addNode_30 : decode cX2_addNode 30 = .ok (.aload_n 0, 1) := by decide +kernel
theorem dX2_addNode_31 : decode cX2_addNode 31 = .ok (.getfield 21, 3) := by decide +kernel
theorem dX2_addNode_34 : decode cX2_addNode 34 = .ok (.iload 4, 2) := by decide +kernel
theorem dX2_addNode_36 : decode cX2_addNode 36 = .ok (.iload_n 3, 1) := by decide +kernel
theorem dX2_addNode_37 : decode cX2_addNode 37 = .ok (.castore, 1) := by decide +kernel
theorem dX2_addNode_38 : decode cX2_addNode 38 = .ok (.aload_n 0, 1) := by decide +kernel
theorem dX2_addNode_39 : decode cX2_addNode 39 = .ok (.iload 4, 2) := by decide +kernel
theorem dX2_addNode_41 : decode cX2_addNode 41 = .ok (.iconst 1, 1) := by decide +kernel
theorem dX2_addNode_42 : decode cX2_addNode 42 = .ok (.iadd, 1) := by decide +kernel
theorem dX2_addNode_43 : decode cX2_addNode 43 = .ok (.putfield 43, 3) := by decide +kernel
theorem dX2_addNode_46 : decode cX2_addNode 46 = .ok (.iload 4, 2) := by decide +kernel
theorem dX2_addNode_48 : decode cX2_addNode 48 = .ok (.ireturn, 1) := by decide +kernel
theorem dX2_addMember_0 : decode cX2_addMember 0 = .ok (.aload_n 0, 1) := by decide +kernel
theorem dX2_addMember_1 : decode cX2_addMember 1 = .ok (.getfield 47, 3) := by decide +kernel
theorem dX2_addMember_4 : decode cX2_addMember 4 = .ok (.istore 5, 2) := by decide +kernel
theorem dX2_addMember_6 : decode cX2_addMember 6 = .ok (.aload_n 0, 1) := by decide +kernel
theorem dX2_addMember_7 : decode cX2_addMember 7 = .ok (.getfield 25, 3) := by decide +kernel
theorem dX2_addMember_10 : decode cX2_addMember 10 = .ok (.iload 5, 2) := by decide +kernel
theorem dX2_addMember_12 : decode cX2_addMember 12 = .ok (.iload_n 1, 1) := by decide +kernel
theorem dX2_addMember_13 : decode cX2_addMember 13 = .ok (.iastore, 1) := by decide +kernel
theorem dX2_addMember_14 : decode cX2_addMember 14 = .ok (.aload_n 0, 1) := by decide +kernel
theorem dX2_addMember_15 : decode cX2_addMember 15 = .ok (.getfield 28, 3) := by decide +kernel
theorem dX2_addMember_18 : decode cX2_addMember 18 = .ok (.iload 5, 2) := by decide +kernel
theorem dX2_addMember_20 : decode cX2_addMember 20 = .ok (.iload_n 2, 1) := by decide +kernel
theorem dX2_addMember_21 : decode cX2_addMember 21 = .ok (.iastore, 1) := by decide +kernel
theorem dX2_addMember_22 : decode cX2_addMember 22 = .ok (.aload_n 0, 1) := by decide +kernel
theorem dX2_addMember_23 : decode cX2_addMember 23 = .ok (.getfield 31, 3) := by decide +kernel
theorem dX2_addMember_26 : decode cX2_addMember 26 = .ok (.iload 5, 2) := by decide +kernel
theorem dX2_addMember_28 : decode cX2_addMember 28 = .ok (.iload_n 3, 1) := by decide +kernel
theorem dX2_addMember_29 : decode cX2_addMember 29 = .ok (.iastore, 1) := by decide +kernel
theorem dX2_addMember_30 : decode cX2_addMember 30 = .ok (.aload_n 0, 1) := by decide +kernel
theorem dX2_addMember_31 : decode cX2_addMember 31 = .ok (.getfield 34, 3) := by decide +kernel
theorem dX2_addMember_34 : decode cX2_addMember 34 = .ok (.iload 5, 2) := by decide +kernel
theorem dX2_addMember_36 : decode cX2_addMember 36 = .ok (.iload 4, 2) := by decide +kernel
theorem dX2_addMember_38 : decode cX2_addMember 38 = .ok (.iastore, 1) := by decide +kernel
theorem dX2_addMember_39 : decode cX2_addMember 39 = .ok (.aload_n 0, 1) := by decide +kernel
theorem dX2_addMember_40 : decode cX2_addMember 40 = .ok (.getfield 37, 3) := by decide +kernel
theorem dX2_addMember_43 : decode cX2_addMember 43 = .ok (.iload 5, 2) := by decide +kernel
theorem dX2_addMember_45 : decode cX2_addMember 45 = .ok (.bipush 30, 2) := by decide +kernel
theorem dX2_addMember_47 : decode cX2_addMember 47 = .ok (.iastore, 1) := by decide +kernel
theorem dX2_addMember_48 : decode cX2_addMember 48 = .ok (.aload_n 0, 1) := by decide +kernel
theorem dX2_addMember_49 : decode cX2_addMember 49 = .ok (.getfield 40, 3) := by decide +kernel
theorem dX2_addMember_52 : decode cX2_addMember 52 = .ok (.iload 5, 2) := by decide +kernel
theorem dX2_addMember_54 : decode cX2_addMember 54 = .ok (.bipush 30, 2) := by decide +kernel
theorem dX2_addMember_56 : decode cX2_addMember 56 = .ok (.iastore, 1) := by decide +kernel
theorem dX2_addMember_57 : decode cX2_addMember 57 = .ok (.aload_n 0, 1) := by decide +kernel
theorem dX2_addMember_58 : decode cX2_addMember 58 = .ok (.iload 5, 2) := by decide +kernel
theorem dX2_addMember_60 : decode cX2_addMember 60 = .ok (.iconst 1, 1) := by decide +kernel
theorem dX2_addMember_61 : decode cX2_addMember 61 = .ok (.iadd, 1) := by decide +kernel
theorem dX2_addMember_62 : decode cX2_addMember 62 = .ok (.putfield 47, 3) := by decide +kernel
theorem dX2_addMember_65 : decode cX2_addMember 65 = .ok (.iload 5, 2) := by decide +kernel
theorem dX2_addMember_67 : decode cX2_addMember 67 = .ok (.ireturn, 1) := by decide +kernel
theorem dX2_addLoad_0 : decode cX2_addLoad 0 = .ok (.aload_n 0, 1) := by decide +kernel
theorem dX2_addLoad_1 : decode cX2_addLoad 1 = .ok (.getfield 15, 3) := by decide +kernel
theorem dX2_addLoad_4 : decode cX2_addLoad 4 = .ok (.iconst 2, 1) := by decide +kernel
theorem dX2_addLoad_5 : decode cX2_addLoad 5 = .ok (.iload_n 1, 1) := by decide +kernel
theorem dX2_addLoad_6 : decode cX2_addLoad 6 = .ok (.imul, 1) := by decide +kernel
theorem dX2_addLoad_7 : decode cX2_addLoad 7 = .ok (.iconst 0, 1) := by decide +kernel
theorem dX2_addLoad_8 : decode cX2_addLoad 8 = .ok (.iadd, 1) := by decide +kernel
theorem dX2_addLoad_9 : decode cX2_addLoad 9 = .ok (.dup2, 1) := by decide +kernel
theorem dX2_addLoad_10 : decode cX2_addLoad 10 = .ok (.iaload, 1) := by decide +kernel
theorem dX2_addLoad_11 : decode cX2_addLoad 11 = .ok (.iload_n 2, 1) := by decide +kernel
theorem dX2_addLoad_12 : decode cX2_addLoad 12 = .ok (.iadd, 1) := by decide +kernel
theorem dX2_addLoad_13 : decode cX2_addLoad 13 = .ok (.iastore, 1) := by decide +kernel
theorem dX2_addLoad_14 : decode cX2_addLoad 14 = .ok (.aload_n 0, 1) := by decide +kernel
theorem dX2_addLoad_15 : decode cX2_addLoad 15 = .ok (.getfield 15, 3) := by decide +kernel
theorem dX2_addLoad_18 : decode cX2_addLoad 18 = .ok (.iconst 2, 1) := by decide +kernel
theorem dX2_addLoad_19 : decode cX2_addLoad 19 = .ok (.iload_n 1, 1) := by decide +kernel
theorem dX2_addLoad_20 : decode cX2_addLoad 20 = .ok (.imul, 1) := by decide +kernel
theorem dX2_addLoad_21 : decode cX2_addLoad 21 = .ok (.iconst 1, 1) := by decide +kernel
theorem dX2_addLoad_22 : decode cX2_addLoad 22 = .ok (.iadd, 1) := by decide +kernel
theorem dX2_addLoad_23 : decode cX2_addLoad 23 = .ok (.dup2, 1) := by decide +kernel
theorem dX2_addLoad_24 : decode cX2_addLoad 24 = .ok (.iaload, 1) := by decide +kernel
theorem dX2_addLoad_25 : decode cX2_addLoad 25 = .ok (.iload_n 3, 1) := by decide +kernel
theorem dX2_addLoad_26 : decode cX2_addLoad 26 = .ok (.iadd, 1) := by decide +kernel
theorem dX2_addLoad_27 : decode cX2_addLoad 27 = .ok (.iastore, 1) := by decide +kernel
theorem dX2_addLoad_28 : decode cX2_addLoad 28 = .ok (.aload_n 0, 1) := by decide +kernel
theorem dX2_addLoad_29 : decode cX2_addLoad 29 = .ok (.getfield 18, 3) := by decide +kernel
theorem dX2_addLoad_32 : decode cX2_addLoad 32 = .ok (.iload_n 1, 1) := by decide +kernel
theorem dX2_addLoad_33 : decode cX2_addLoad 33 = .ok (.dup2, 1) := by decide +kernel
theorem dX2_addLoad_34 : decode cX2_addLoad 34 = .ok (.iaload, 1) := by decide +kernel
theorem dX2_addLoad_35 : decode cX2_addLoad 35 = .ok (.iconst 1, 1) := by decide +kernel
theorem dX2_addLoad_36 : decode cX2_addLoad 36 = .ok (.iadd, 1) := by decide +kernel
theorem dX2_addLoad_37 : decode cX2_addLoad 37 = .ok (.iastore, 1) := by decide +kernel
theorem dX2_addLoad_38 : decode cX2_addLoad 38 = .ok (.aload_n 0, 1) := by decide +kernel
theorem dX2_addLoad_39 : decode cX2_addLoad 39 = .ok (.getfield 18, 3) := by decide +kernel
theorem dX2_addLoad_42 : decode cX2_addLoad 42 = .ok (.iload_n 1, 1) := by decide +kernel
theorem dX2_addLoad_43 : decode cX2_addLoad 43 = .ok (.iaload, 1) := by decide +kernel
theorem dX2_addLoad_44 : decode cX2_addLoad 44 = .ok (.ireturn, 1) := by decide +kernel
theorem dX2_isOnePlace_0 : decode cX2_isOnePlace 0 = .ok (.aload_n 0, 1) := by decide +kernel
theorem dX2_isOnePlace_1 : decode cX2_isOnePlace 1 = .ok (.getfield 9, 3) := by decide +kernel
theorem dX2_isOnePlace_4 : decode cX2_isOnePlace 4 = .ok (.iconst 2, 1) := by decide +kernel
theorem dX2_isOnePlace_5 : decode cX2_isOnePlace 5 = .ok (.iload_n 1, 1) := by decide +kernel
theorem dX2_isOnePlace_6 : decode cX2_isOnePlace 6 = .ok (.imul, 1) := by decide +kernel
theorem dX2_isOnePlace_7 : decode cX2_isOnePlace 7 = .ok (.iconst 0, 1) := by decide +kernel
theorem dX2_isOnePlace_8 : decode cX2_isOnePlace 8 = .ok (.iadd, 1) := by decide +kernel
theorem dX2_isOnePlace_9 : decode cX2_isOnePlace 9 = .ok (.iaload, 1) := by decide +kernel
theorem dX2_isOnePlace_10 : decode cX2_isOnePlace 10 = .ok (.aload_n 0, 1) := by decide +kernel
theorem dX2_isOnePlace_11 : decode cX2_isOnePlace 11 = .ok (.getfield 9, 3) := by decide +kernel
theorem dX2_isOnePlace_14 : decode cX2_isOnePlace 14 = .ok (.iconst 2, 1) := by decide +kernel
theorem dX2_isOnePlace_15 : decode cX2_isOnePlace 15 = .ok (.iload_n 2, 1) := by decide +kernel
theorem dX2_isOnePlace_16 : decode cX2_isOnePlace 16 = .ok (.imul, 1) := by decide +kernel
theorem dX2_isOnePlace_17 : decode cX2_isOnePlace 17 = .ok (.iconst 0, 1) := by decide +kernel
theorem dX2_isOnePlace_18 : decode cX2_isOnePlace 18 = .ok (.iadd, 1) := by decide +kernel
theorem dX2_isOnePlace_19 : decode cX2_isOnePlace 19 = .ok (.iaload, 1) := by decide +kernel
theorem dX2_isOnePlace_20 : decode cX2_isOnePlace 20 = .ok (.if_icmp .ne 30, 3) := by decide +kernel
theorem dX2_isOnePlace_23 : decode cX2_isOnePlace 23 = .ok (.aload_n 0, 1) := by decide +kernel
theorem dX2_isOnePlace_24 : decode cX2_isOnePlace 24 = .ok (.getfield 9, 3) := by decide +kernel
theorem dX2_isOnePlace_27 : decode cX2_isOnePlace 27 = .ok (.iconst 2, 1) := by decide +kernel
theorem dX2_isOnePlace_28 : decode cX2_isOnePlace 28 = .ok (.iload_n 1, 1) := by decide +kernel
theorem dX2_isOnePlace_29 : decode cX2_isOnePlace 29 = .ok (.imul, 1) := by decide +kernel
theorem dX2_isOnePlace_30 : decode cX2_isOnePlace 30 = .ok (.iconst 1, 1) := by decide +kernel
theorem dX2_isOnePlace_31 : decode cX2_isOnePlace 31 = .ok (.iadd, 1) := by decide +kernel
theorem dX2_isOnePlace_32 : decode cX2_isOnePlace 32 = .ok (.iaload, 1) := by decide +kernel
theorem dX2_isOnePlace_33 : decode cX2_isOnePlace 33 = .ok (.aload_n 0, 1) := by decide +kernel
theorem dX2_isOnePlace_34 : decode cX2_isOnePlace 34 = .ok (.getfield 9, 3) := by decide +kernel
theorem dX2_isOnePlace_37 : decode cX2_isOnePlace 37 = .ok (.iconst 2, 1) := by decide +kernel
theorem dX2_isOnePlace_38 : decode cX2_isOnePlace 38 = .ok (.iload_n 2, 1) := by decide +kernel
theorem dX2_isOnePlace_39 : decode cX2_isOnePlace 39 = .ok (.imul, 1) := by decide +kernel
theorem dX2_isOnePlace_40 : decode cX2_isOnePlace 40 = .ok (.iconst 1, 1) := by decide +kernel
theorem dX2_isOnePlace_41 : decode cX2_isOnePlace 41 = .ok (.iadd, 1) := by decide +kernel
theorem dX2_isOnePlace_42 : decode cX2_isOnePlace 42 = .ok (.iaload, 1) := by decide +kernel
theorem dX2_isOnePlace_43 : decode cX2_isOnePlace 43 = .ok (.if_icmp .ne 7, 3) := by decide +kernel
theorem dX2_isOnePlace_46 : decode cX2_isOnePlace 46 = .ok (.iconst 1, 1) := by decide +kernel
theorem dX2_isOnePlace_47 : decode cX2_isOnePlace 47 = .ok (.goto 4, 3) := by decide +kernel
theorem dX2_isOnePlace_50 : decode cX2_isOnePlace 50 = .ok (.iconst 0, 1) := by decide +kernel
theorem dX2_isOnePlace_51 : decode cX2_isOnePlace 51 = .ok (.ireturn, 1) := by decide +kernel
theorem dX2_isBorne_0 : decode cX2_isBorne 0 = .ok (.aload_n 0, 1) := by decide +kernel
theorem dX2_isBorne_1 : decode cX2_isBorne 1 = .ok (.getfield 21, 3) := by decide +kernel
theorem dX2_isBorne_4 : decode cX2_isBorne 4 = .ok (.iload_n 1, 1) := by decide +kernel
theorem dX2_isBorne_5 : decode cX2_isBorne 5 = .ok (.caload, 1) := by decide +kernel
theorem dX2_isBorne_6 : decode cX2_isBorne 6 = .ok (.bipush 112, 2) := by decide +kernel
theorem dX2_isBorne_8 : decode cX2_isBorne 8 = .ok (.if_icmp .eq 19, 3) := by decide +kernel
theorem dX2_isBorne_11 : decode cX2_isBorne 11 = .ok (.aload_n 0, 1) := by decide +kernel
theorem dX2_isBorne_12 : decode cX2_isBorne 12 = .ok (.getfield 21, 3) := by decide +kernel
theorem dX2_isBorne_15 : decode cX2_isBorne 15 = .ok (.iload_n 1, 1) := by decide +kernel
theorem dX2_isBorne_16 : decode cX2_isBorne 16 = .ok (.caload, 1) := by decide +kernel
theorem dX2_isBorne_17 : decode cX2_isBorne 17 = .ok (.bipush 114, 2) := by decide +kernel
theorem dX2_isBorne_19 : decode cX2_isBorne 19 = .ok (.if_icmp .ne 12, 3) := by decide +kernel
theorem dX2_isBorne_22 : decode cX2_isBorne 22 = .ok (.iload_n 2, 1) := by decide +kernel
theorem dX2_isBorne_23 : decode cX2_isBorne 23 = .ok (.iconst 1, 1) := by decide +kernel
theorem dX2_isBorne_24 : decode cX2_isBorne 24 = .ok (.if_icmp .ne 7, 3) := by decide +kernel
theorem dX2_isBorne_27 : decode cX2_isBorne 27 = .ok (.iconst 1, 1) := by decide +kernel
theorem dX2_isBorne_28 : decode cX2_isBorne 28 = .ok (.goto 4, 3) := by decide +kernel
theorem dX2_isBorne_31 : decode cX2_isBorne 31 = .ok (.iconst 0, 1) := by decide +kernel
theorem dX2_isBorne_32 : decode cX2_isBorne 32 = .ok (.ireturn, 1) := by decide +kernel
theorem dX2_otherEnd_0 : decode cX2_otherEnd 0 = .ok (.aload_n 0, 1) := by decide +kernel
theorem dX2_otherEnd_1 : decode cX2_otherEnd 1 = .ok (.getfield 25, 3) := by decide +kernel
theorem dX2_otherEnd_4 : decode cX2_otherEnd 4 = .ok (.iload_n 1, 1) := by decide +kernel
theorem dX2_otherEnd_5 : decode cX2_otherEnd 5 = .ok (.iaload, 1) := by decide +kernel
theorem dX2_otherEnd_6 : decode cX2_otherEnd 6 = .ok (.iload_n 2, 1) := by decide +kernel
theorem dX2_otherEnd_7 : decode cX2_otherEnd 7 = .ok (.if_icmp .ne 10, 3) := by decide +kernel
theorem dX2_otherEnd_10 : decode cX2_otherEnd 10 = .ok (.aload_n 0, 1) := by decide +kernel
theorem dX2_otherEnd_11 : decode cX2_otherEnd 11 = .ok (.getfield 28, 3) := by decide +kernel
theorem dX2_otherEnd_14 : decode cX2_otherEnd 14 = .ok (.iload_n 1, 1) := by decide +kernel
theorem dX2_otherEnd_15 : decode cX2_otherEnd 15 = .ok (.iaload, 1) := by decide +kernel
theorem dX2_otherEnd_16 : decode cX2_otherEnd 16 = .ok (.ireturn, 1) := by decide +kernel
theorem dX2_otherEnd_17 : decode cX2_otherEnd 17 = .ok (.aload_n 0, 1) := by decide +kernel
theorem dX2_otherEnd_18 : decode cX2_otherEnd 18 = .ok (.getfield 28, 3) := by decide +kernel
theorem dX2_otherEnd_21 : decode cX2_otherEnd 21 = .ok (.iload_n 1, 1) := by decide +kernel
theorem dX2_otherEnd_22 : decode cX2_otherEnd 22 = .ok (.iaload, 1) := by decide +kernel
theorem dX2_otherEnd_23 : decode cX2_otherEnd 23 = .ok (.iload_n 2, 1) := by decide +kernel
theorem dX2_otherEnd_24 : decode cX2_otherEnd 24 = .ok (.if_icmp .ne 12, 3) := by decide +kernel
theorem dX2_otherEnd_27 : decode cX2_otherEnd 27 = .ok (.aload_n 0, 1) := by decide +kernel
theorem dX2_otherEnd_28 : decode cX2_otherEnd 28 = .ok (.getfield 25, 3) := by decide +kernel
theorem dX2_otherEnd_31 : decode cX2_otherEnd 31 = .ok (.iload_n 1, 1) := by decide +kernel
theorem dX2_otherEnd_32 : decode cX2_otherEnd 32 = .ok (.iaload, 1) := by decide +kernel
theorem dX2_otherEnd_33 : decode cX2_otherEnd 33 = .ok (.goto 4, 3) := by decide +kernel
theorem dX2_otherEnd_36 : decode cX2_otherEnd 36 = .ok (.iconst (-1), 1) := by decide +kernel
theorem dX2_otherEnd_37 : decode cX2_otherEnd 37 = .ok (.ireturn, 1) := by decide +kernel
theorem dX2_haveCommonNode_0 : decode cX2_haveCommonNode 0 = .ok (.aload_n 0, 1) := by decide +kernel
theorem dX2_haveCommonNode_1 : decode cX2_haveCommonNode 1 = .ok (.iload_n 1, 1) := by decide +kernel
theorem dX2_haveCommonNode_2 : decode cX2_haveCommonNode 2 = .ok (.aload_n 0, 1) := by decide +kernel
theorem dX2_haveCommonNode_3 : decode cX2_haveCommonNode 3 = .ok (.getfield 25, 3) := by decide +kernel
theorem dX2_haveCommonNode_6 : decode cX2_haveCommonNode 6 = .ok (.iload_n 2, 1) := by decide +kernel
theorem dX2_haveCommonNode_7 : decode cX2_haveCommonNode 7 = .ok (.iaload, 1) := by decide +kernel
theorem dX2_haveCommonNode_8 : decode cX2_haveCommonNode 8 = .ok (.invokevirtual 50, 3) := by decide +kernel
theorem dX2_haveCommonNode_11 : decode cX2_haveCommonNode 11 = .ok (.ifCond .ge 17, 3) := by decide +kernel
theorem dX2_haveCommonNode_14 : decode cX2_haveCommonNode 14 = .ok (.aload_n 0, 1) := by decide +kernel
theorem dX2_haveCommonNode_15 : decode cX2_haveCommonNode 15 = .ok (.iload_n 1, 1) := by decide +kernel
theorem dX2_haveCommonNode_16 : decode cX2_haveCommonNode 16 = .ok (.aload_n 0, 1) := by decide +kernel
theorem dX2_haveCommonNode_17 : decode cX2_haveCommonNode 17 = .ok (.getfield 28, 3) := by decide +kernel
theorem dX2_haveCommonNode_20 : decode cX2_haveCommonNode 20 = .ok (.iload_n 2, 1) := by decide +kernel
theorem dX2_haveCommonNode_21 : decode cX2_haveCommonNode 21 = .ok (.iaload, 1) := by decide +kernel
theorem dX2_haveCommonNode_22 : decode cX2_haveCommonNode 22 = .ok (.invokevirtual 50, 3) := by decide +kernel
theorem dX2_haveCommonNode_25 : decode cX2_haveCommonNode 25 = .ok (.ifCond .lt 7, 3) := by decide +kernel
theorem dX2_haveCommonNode_28 : decode cX2_haveCommonNode 28 = .ok (.iconst 1, 1) := by decide +kernel
theorem dX2_haveCommonNode_29 : decode cX2_haveCommonNode 29 = .ok (.goto 4, 3) := by decide +kernel
theorem dX2_haveCommonNode_32 : decode cX2_haveCommonNode 32 = .ok (.iconst 0, 1) := by decide +kernel
theorem dX2_haveCommonNode_33 : decode cX2_haveCommonNode 33 = .ok (.ireturn, 1) := by decide +kernel
theorem dX2_wayAlong_0 : decode cX2_wayAlong 0 = .ok (.aload_n 0, 1) := by decide +kernel
theorem dX2_wayAlong_1 : decode cX2_wayAlong 1 = .ok (.iload_n 1, 1) := by decide +kernel
theorem dX2_wayAlong_2 : decode cX2_wayAlong 2 = .ok (.iload_n 2, 1) := by decide +kernel
theorem dX2_wayAlong_3 : decode cX2_wayAlong 3 = .ok (.invokevirtual 50, 3) := by decide +kernel
theorem dX2_wayAlong_6 : decode cX2_wayAlong 6 = .ok (.istore 4, 2) := by decide +kernel
theorem dX2_wayAlong_8 : decode cX2_wayAlong 8 = .ok (.iload 4, 2) := by decide +kernel
theorem dX2_wayAlong_10 : decode cX2_wayAlong 10 = .ok (.ifCond .ge 7, 3) := by decide +kernel
theorem dX2_wayAlong_13 : decode cX2_wayAlong 13 = .ok (.iconst 0, 1) := by decide +kernel
theorem dX2_wayAlong_14 : decode cX2_wayAlong 14 = .ok (.goto 25, 3) := by decide +kernel
theorem dX2_wayAlong_17 : decode cX2_wayAlong 17 = .ok (.aload_n 0, 1) := by decide +kernel
theorem dX2_wayAlong_18 : decode cX2_wayAlong 18 = .ok (.getfield 9, 3) := by decide +kernel
theorem dX2_wayAlong_21 : decode cX2_wayAlong 21 = .ok (.iconst 2, 1) := by decide +kernel
theorem dX2_wayAlong_22 : decode cX2_wayAlong 22 = .ok (.iload 4, 2) := by decide +kernel
theorem dX2_wayAlong_24 : decode cX2_wayAlong 24 = .ok (.imul, 1) := by decide +kernel
theorem dX2_wayAlong_25 : decode cX2_wayAlong 25 = .ok (.iload_n 3, 1) := by decide +kernel
theorem dX2_wayAlong_26 : decode cX2_wayAlong 26 = .ok (.iadd, 1) := by decide +kernel
theorem dX2_wayAlong_27 : decode cX2_wayAlong 27 = .ok (.iaload, 1) := by decide +kernel
theorem dX2_wayAlong_28 : decode cX2_wayAlong 28 = .ok (.aload_n 0, 1) := by decide +kernel
theorem dX2_wayAlong_29 : decode cX2_wayAlong 29 = .ok (.getfield 9, 3) := by decide +kernel
theorem dX2_wayAlong_32 : decode cX2_wayAlong 32 = .ok (.iconst 2, 1) := by decide +kernel
theorem dX2_wayAlong_33 : decode cX2_wayAlong 33 = .ok (.iload_n 2, 1) := by decide +kernel
theorem dX2_wayAlong_34 : decode cX2_wayAlong 34 = .ok (.imul, 1) := by decide +kernel
theorem dX2_wayAlong_35 : decode cX2_wayAlong 35 = .ok (.iload_n 3, 1) := by decide +kernel
theorem dX2_wayAlong_36 : decode cX2_wayAlong 36 = .ok (.iadd, 1) := by decide +kernel
theorem dX2_wayAlong_37 : decode cX2_wayAlong 37 = .ok (.iaload, 1) := by decide +kernel
theorem dX2_wayAlong_38 : decode cX2_wayAlong 38 = .ok (.isub, 1) := by decide +kernel
theorem dX2_wayAlong_39 : decode cX2_wayAlong 39 = .ok (.ireturn, 1) := by decide +kernel
theorem dX2_lengthSquare_0 : decode cX2_lengthSquare 0 = .ok (.iconst 2, 1) := by decide +kernel
theorem dX2_lengthSquare_1 : decode cX2_lengthSquare 1 = .ok (.aload_n 0, 1) := by decide +kernel
theorem dX2_lengthSquare_2 : decode cX2_lengthSquare 2 = .ok (.getfield 25, 3) := by decide +kernel
theorem dX2_lengthSquare_5 : decode cX2_lengthSquare 5 = .ok (.iload_n 1, 1) := by decide +kernel
theorem dX2_lengthSquare_6 : decode cX2_lengthSquare 6 = .ok (.iaload, 1) := by decide +kernel
theorem dX2_lengthSquare_7 : decode cX2_lengthSquare 7 = .ok (.imul, 1) := by decide +kernel
theorem dX2_lengthSquare_8 : decode cX2_lengthSquare 8 = .ok (.istore_n 2, 1) := by decide +kernel
theorem dX2_lengthSquare_9 : decode cX2_lengthSquare 9 = .ok (.iconst 2, 1) := by decide +kernel
theorem dX2_lengthSquare_10 : decode cX2_lengthSquare 10 = .ok (.aload_n 0, 1) := by decide +kernel
theorem dX2_lengthSquare_11 : decode cX2_lengthSquare 11 = .ok (.getfield 28, 3) := by decide +kernel
theorem dX2_lengthSquare_14 : decode cX2_lengthSquare 14 = .ok (.iload_n 1, 1) := by decide +kernel
theorem dX2_lengthSquare_15 : decode cX2_lengthSquare 15 = .ok (.iaload, 1) := by decide +kernel
theorem dX2_lengthSquare_16 : decode cX2_lengthSquare 16 = .ok (.imul, 1) := by decide +kernel
theorem dX2_lengthSquare_17 : decode cX2_lengthSquare 17 = .ok (.istore_n 3, 1) := by decide +kernel
theorem dX2_lengthSquare_18 : decode cX2_lengthSquare 18 = .ok (.aload_n 0, 1) := by decide +kernel
theorem dX2_lengthSquare_19 : decode cX2_lengthSquare 19 = .ok (.getfield 9, 3) := by decide +kernel
theorem dX2_lengthSquare_22 : decode cX2_lengthSquare 22 = .ok (.iload_n 3, 1) := by decide +kernel
theorem dX2_lengthSquare_23 : decode cX2_lengthSquare 23 = .ok (.iconst 0, 1) := by decide +kernel
theorem dX2_lengthSquare_24 : decode cX2_lengthSquare 24 = .ok (.iadd, 1) := by decide +kernel
theorem dX2_lengthSquare_25 : decode cX2_lengthSquare 25 = .ok (.iaload, 1) := by decide +kernel
theorem dX2_lengthSquare_26 : decode cX2_lengthSquare 26 = .ok (.aload_n 0, 1) := by decide +kernel
theorem dX2_lengthSquare_27 : decode cX2_lengthSquare 27 = .ok (.getfield 9, 3) := by decide +kernel
theorem dX2_lengthSquare_30 : decode cX2_lengthSquare 30 = .ok (.iload_n 2, 1) := by decide +kernel
theorem dX2_lengthSquare_31 : decode cX2_lengthSquare 31 = .ok (.iconst 0, 1) := by decide +kernel
theorem dX2_lengthSquare_32 : decode cX2_lengthSquare 32 = .ok (.iadd, 1) := by decide +kernel
theorem dX2_lengthSquare_33 : decode cX2_lengthSquare 33 = .ok (.iaload, 1) := by decide +kernel
theorem dX2_lengthSquare_34 : decode cX2_lengthSquare 34 = .ok (.isub, 1) := by decide +kernel
theorem dX2_lengthSquare_35 : decode cX2_lengthSquare 35 = .ok (.istore 4, 2) := by decide +kernel
theorem dX2_lengthSquare_37 : decode cX2_lengthSquare 37 = .ok (.aload_n 0, 1) := by decide +kernel
theorem dX2_lengthSquare_38 : decode cX2_lengthSquare 38 = .ok (.getfield 9, 3) := by decide +kernel
theorem dX2_lengthSquare_41 : decode cX2_lengthSquare 41 = .ok (.iload_n 3, 1) := by decide +kernel
theorem dX2_lengthSquare_42 : decode cX2_lengthSquare 42 = .ok (.iconst 1, 1) := by decide +kernel
theorem dX2_lengthSquare_43 : decode cX2_lengthSquare 43 = .ok (.iadd, 1) := by decide +kernel
theorem dX2_lengthSquare_44 : decode cX2_lengthSquare 44 = .ok (.iaload, 1) := by decide +kernel
theorem dX2_lengthSquare_45 : decode cX2_lengthSquare 45 = .ok (.aload_n 0, 1) := by decide +kernel
theorem dX2_lengthSquare_46 : decode cX2_lengthSquare 46 = .ok (.getfield 9, 3) := by decide +kernel
theorem dX2_lengthSquare_49 : decode cX2_lengthSquare 49 = .ok (.iload_n 2, 1) := by decide +kernel
theorem dX2_lengthSquare_50 : decode cX2_lengthSquare 50 = .ok (.iconst 1, 1) := by decide +kernel
theorem dX2_lengthSquare_51 : decode cX2_lengthSquare 51 = .ok (.iadd, 1) := by decide +kernel
theorem dX2_lengthSquare_52 : decode cX2_lengthSquare 52 = .ok (.iaload, 1) := by decide +kernel
theorem dX2_lengthSquare_53 : decode cX2_lengthSquare 53 = .ok (.isub, 1) := by decide +kernel
theorem dX2_lengthSquare_54 : decode cX2_lengthSquare 54 = .ok (.istore 5, 2) := by decide +kernel
theorem dX2_lengthSquare_56 : decode cX2_lengthSquare 56 = .ok (.iload 4, 2) := by decide +kernel
theorem dX2_lengthSquare_58 : decode cX2_lengthSquare 58 = .ok (.iload 4, 2) := by decide +kernel
theorem dX2_lengthSquare_60 : decode cX2_lengthSquare 60 = .ok (.imul, 1) := by decide +kernel
theorem dX2_lengthSquare_61 : decode cX2_lengthSquare 61 = .ok (.iload 5, 2) := by decide +kernel
theorem dX2_lengthSquare_63 : decode cX2_lengthSquare 63 = .ok (.iload 5, 2) := by decide +kernel
theorem dX2_lengthSquare_65 : decode cX2_lengthSquare 65 = .ok (.imul, 1) := by decide +kernel
theorem dX2_lengthSquare_66 : decode cX2_lengthSquare 66 = .ok (.iadd, 1) := by decide +kernel
theorem dX2_lengthSquare_67 : decode cX2_lengthSquare 67 = .ok (.ireturn, 1) := by decide +kernel
theorem dX2_isOnGround_0 : decode cX2_isOnGround 0 = .ok (.aload_n 0, 1) := by decide +kernel
theorem dX2_isOnGround_1 : decode cX2_isOnGround 1 = .ok (.getfield 21, 3) := by decide +kernel
theorem dX2_isOnGround_4 : decode cX2_isOnGround 4 = .ok (.aload_n 0, 1) := by decide +kernel
theorem dX2_isOnGround_5 : decode cX2_isOnGround 5 = .ok (.getfield 25, 3) := by decide +kernel
theorem dX2_isOnGround_8 : decode cX2_isOnGround 8 = .ok (.iload_n 1, 1) := by decide +kernel
theorem dX2_isOnGround_9 : decode cX2_isOnGround 9 = .ok (.iaload, 1) := by decide +kernel
theorem dX2_isOnGround_10 : decode cX2_isOnGround 10 = .ok (.caload, 1) := by decide +kernel
theorem dX2_isOnGround_11 : decode cX2_isOnGround 11 = .ok (.bipush 45, 2) := by decide +kernel
theorem dX2_isOnGround_13 : decode cX2_isOnGround 13 = .ok (.if_icmp .ne 19, 3) := by decide +kernel
theorem dX2_isOnGround_16 : decode cX2_isOnGround 16 = .ok (.aload_n 0, 1) := by decide +kernel
theorem dX2_isOnGround_17 : decode cX2_isOnGround 17 = .ok (.getfield 21, 3) := by decide +kernel
theorem dX2_isOnGround_20 : decode cX2_isOnGround 20 = .ok (.aload_n 0, 1) := by decide +kernel
theorem dX2_isOnGround_21 : decode cX2_isOnGround 21 = .ok (.getfield 28, 3) := by decide +kernel
theorem dX2_isOnGround_24 : decode cX2_isOnGround 24 = .ok (.iload_n 1, 1) := by decide +kernel
theorem dX2_isOnGround_25 : decode cX2_isOnGround 25 = .ok (.iaload, 1) := by decide +kernel
theorem dX2_isOnGround_26 : decode cX2_isOnGround 26 = .ok (.caload, 1) := by decide +kernel
theorem dX2_isOnGround_27 : decode cX2_isOnGround 27 = .ok (.bipush 45, 2) := by decide +kernel
theorem dX2_isOnGround_29 : decode cX2_isOnGround 29 = .ok (.if_icmp .eq 7, 3) := by decide +kernel
theorem dX2_isOnGround_32 : decode cX2_isOnGround 32 = .ok (.iconst 1, 1) := by decide +kernel
theorem dX2_isOnGround_33 : decode cX2_isOnGround 33 = .ok (.goto 4, 3) := by decide +kernel
theorem dX2_isOnGround_36 : decode cX2_isOnGround 36 = .ok (.iconst 0, 1) := by decide +kernel
theorem dX2_isOnGround_37 : decode cX2_isOnGround 37 = .ok (.ireturn, 1) := by decide +kernel
theorem dX3_init_0 : decode cX3_init 0 = .ok (.aload_n 0, 1) := by decide +kernel
theorem dX3_init_1 : decode cX3_init 1 = .ok (.invokespecial 3, 3) := by decide +kernel
theorem dX3_init_4 : decode cX3_init 4 = .ok (.aload_n 0, 1) := by decide +kernel
theorem dX3_init_5 : decode cX3_init 5 = .ok (.bipush 12, 2) := by decide +kernel
theorem dX3_init_7 : decode cX3_init 7 = .ok (.newarray .int, 2) := by decide +kernel
theorem dX3_init_9 : decode cX3_init 9 = .ok (.putfield 9, 3) := by decide +kernel
theorem dX3_init_12 : decode cX3_init 12 = .ok (.aload_n 0, 1) := by decide +kernel
theorem dX3_init_13 : decode cX3_init 13 = .ok (.bipush 12, 2) := by decide +kernel
theorem dX3_init_15 : decode cX3_init 15 = .ok (.newarray .int, 2) := by decide +kernel
theorem dX3_init_17 : decode cX3_init 17 = .ok (.putfield 15, 3) := by decide +kernel
theorem dX3_init_20 : decode cX3_init 20 = .ok (.aload_n 0, 1) := by decide +kernel
theorem dX3_init_21 : decode cX3_init 21 = .ok (.bipush 12, 2) := by decide +kernel
theorem dX3_init_23 : decode cX3_init 23 = .ok (.newarray .int, 2) := by decide +kernel
theorem dX3_init_25 : decode cX3_init 25 = .ok (.putfield 18, 3) := by decide +kernel
theorem dX3_init_28 : decode cX3_init 28 = .ok (.aload_n 0, 1) := by decide +kernel
theorem dX3_init_29 : decode cX3_init 29 = .ok (.bipush 12, 2) := by decide +kernel
theorem dX3_init_31 : decode cX3_init 31 = .ok (.newarray .int, 2) := by decide +kernel
theorem dX3_init_33 : decode cX3_init 33 = .ok (.putfield 21, 3) := by decide +kernel
theorem dX3_init_36 : decode cX3_init 36 = .ok (.aload_n 0, 1) := by decide +kernel
theorem dX3_init_37 : decode cX3_init 37 = .ok (.bipush 12, 2) := by decide +kernel
theorem dX3_init_39 : decode cX3_init 39 = .ok (.newarray .int, 2) := by decide +kernel
theorem dX3_init_41 : decode cX3_init 41 = .ok (.putfield 24, 3) := by decide +kernel
theorem dX3_init_44 : decode cX3_init 44 = .ok (.return_, 1) := by decide +kernel
theorem dX3_wayIndex_0 : decode cX3_wayIndex 0 = .ok (.ldc 27, 2) := by decide +kernel
theorem dX3_wayIndex_2 : decode cX3_wayIndex 2 = .ok (.iload_n 1, 1) := by decide +kernel
theorem dX3_wayIndex_3 : decode cX3_wayIndex 3 = .ok (.invokevirtual 29, 3) := by decide +kernel
theorem dX3_wayIndex_6 : decode cX3_wayIndex 6 = .ok (.ireturn, 1) := by decide +kernel
theorem dX3_add_0 : decode cX3_add 0 = .ok (.aload_n 0, 1) := by decide +kernel
theorem dX3_add_1 : decode cX3_add 1 = .ok (.getfield 35, 3) := by decide +kernel
theorem dX3_add_4 : decode cX3_add 4 = .ok (.istore 6, 2) := by decide +kernel
theorem dX3_add_6 : decode cX3_add 6 = .ok (.aload_n 0, 1) := by decide +kernel
theorem dX3_add_7 : decode cX3_add 7 = .ok (.getfield 9, 3) := by decide +kernel
theorem dX3_add_10 : decode cX3_add 10 = .ok (.iload 6, 2) := by decide +kernel
theorem dX3_add_12 : decode cX3_add 12 = .ok (.iload_n 1, 1) := by decide +kernel
theorem dX3_add_13 : decode cX3_add 13 = .ok (.iastore, 1) := by decide +kernel
theorem dX3_add_14 : decode cX3_add 14 = .ok (.aload_n 0, 1) := by decide +kernel
theorem dX3_add_15 : decode cX3_add 15 = .ok (.getfield 15, 3) := by decide +kernel
theorem dX3_add_18 : decode cX3_add 18 = .ok (.iload 6, 2) := by decide +kernel
theorem dX3_add_20 : decode cX3_add 20 = .ok (.iload_n 2, 1) := by decide +kernel
theorem dX3_add_21 : decode cX3_add 21 = .ok (.iastore, 1) := by decide +kernel
theorem dX3_add_22 : decode cX3_add 22 = .ok (.aload_n 0, 1) := by decide +kernel
theorem dX3_add_23 : decode cX3_add 23 = .ok (.getfield 18, 3) := by decide +kernel
theorem dX3_add_26 : decode cX3_add 26 = .ok (.iload 6, 2) := by decide +kernel
theorem dX3_add_28 : decode cX3_add 28 = .ok (.iload_n 3, 1) := by decide +kernel
theorem dX3_add_29 : decode cX3_add 29 = .ok (.iastore, 1) := by decide +kernel
theorem dX3_add_30 : decode cX3_add 30 = .ok (.aload_n 0, 1) := by decide +kernel
theorem dX3_add_31 : decode cX3_add 31 = .ok (.getfield 21, 3) := by decide +kernel
theorem dX3_add_34 : decode cX3_add 34 = .ok (.iload 6, 2) := by decide +kernel
theorem dX3_add_36 : decode cX3_add 36 = .ok (.iload 4, 2) := by decide +kernel
theorem dX3_add_38 : decode cX3_add 38 = .ok (.iastore, 1) := by decide +kernel
theorem dX3_add_39 : decode cX3_add 39 = .ok (.aload_n 0, 1) := by decide +kernel
theorem dX3_add_40 : decode cX3_add 40 = .ok (.getfield 24, 3) := by decide +kernel
theorem dX3_add_43 : decode cX3_add 43 = .ok (.iload 6, 2) := by decide +kernel
theorem dX3_add_45 : decode cX3_add 45 = .ok (.iload 5, 2) := by decide +kernel
theorem dX3_add_47 : decode cX3_add 47 = .ok (.iastore, 1) := by decide +kernel
theorem dX3_add_48 : decode cX3_add 48 = .ok (.aload_n 0, 1) := by decide +kernel
theorem dX3_add_49 : decode cX3_add 49 = .ok (.iload 6, 2) := by decide +kernel
theorem dX3_add_51 : decode cX3_add 51 = .ok (.iconst 1, 1) := by decide +kernel
theorem dX3_add_52 : decode cX3_add 52 = .ok (.iadd, 1) := by decide +kernel
theorem dX3_add_53 : decode cX3_add 53 = .ok (.putfield 35, 3) := by decide +kernel
theorem dX3_add_56 : decode cX3_add 56 = .ok (.iload 6, 2) := by decide +kernel
theorem dX3_add_58 : decode cX3_add 58 = .ok (.ireturn, 1) := by decide +kernel
theorem dX3_areJoined_0 : decode cX3_areJoined 0 = .ok (.iconst 0, 1) := by decide +kernel
theorem dX3_areJoined_1 : decode cX3_areJoined 1 = .ok (.istore_n 3, 1) := by decide +kernel
theorem dX3_areJoined_2 : decode cX3_areJoined 2 = .ok (.iload_n 3, 1) := by decide +kernel
theorem dX3_areJoined_3 : decode cX3_areJoined 3 = .ok (.aload_n 0, 1) := by decide +kernel
theorem dX3_areJoined_4 : decode cX3_areJoined 4 = .ok (.getfield 35, 3) := by decide +kernel
theorem dX3_areJoined_7 : decode cX3_areJoined 7 = .ok (.if_icmp .ge 21, 3) := by decide +kernel
theorem dX3_areJoined_10 : decode cX3_areJoined 10 = .ok (.aload_n 0, 1) := by decide +kernel
theorem dX3_areJoined_11 : decode cX3_areJoined 11 = .ok (.iload_n 3, 1) := by decide +kernel
theorem dX3_areJoined_12 : decode cX3_areJoined 12 = .ok (.iload_n 1, 1) := by decide +kernel
theorem dX3_areJoined_13 : decode cX3_areJoined 13 = .ok (.invokevirtual 39, 3) := by decide +kernel
theorem dX3_areJoined_16 : decode cX3_areJoined 16 = .ok (.iload_n 2, 1) := by decide +kernel
theorem dX3_areJoined_17 : decode cX3_areJoined 17 = .ok (.if_icmp .ne 5, 3) := by decide +kernel
theorem dX3_areJoined_20 : decode cX3_areJoined 20 = .ok (.iconst 1, 1) := by decide +kernel
theorem dX3_areJoined_21 : decode cX3_areJoined 21 = .ok (.ireturn, 1) := by decide +kernel
theorem dX3_areJoined_22 : decode cX3_areJoined 22 = .ok (.iinc 3 1, 3) := by decide +kernel
theorem dX3_areJoined_25 : decode cX3_areJoined 25 = .ok (.goto (-23), 3) := by decide +kernel
theorem dX3_areJoined_28 : decode cX3_areJoined 28 = .ok (.iconst 0, 1) := by decide +kernel
theorem dX3_areJoined_29 : decode cX3_areJoined 29 = .ok (.ireturn, 1) := by decide +kernel
theorem dX3_partner_0 : decode cX3_partner 0 = .ok (.aload_n 0, 1) := by decide +kernel
theorem dX3_partner_1 : decode cX3_partner 1 = .ok (.getfield 9, 3) := by decide +kernel
theorem dX3_partner_4 : decode cX3_partner 4 = .ok (.iload_n 1, 1) := by decide +kernel
theorem dX3_partner_5 : decode cX3_partner 5 = .ok (.iaload, 1) := by decide +kernel
theorem dX3_partner_6 : decode cX3_partner 6 = .ok (.iload_n 2, 1) := by decide +kernel
theorem dX3_partner_7 : decode cX3_partner 7 = .ok (.if_icmp .ne 10, 3) := by decide +kernel
theorem dX3_partner_10 : decode cX3_partner 10 = .ok (.aload_n 0, 1) := by decide +kernel
theorem dX3_partner_11 : decode cX3_partner 11 = .ok (.getfield 15, 3) := by decide +kernel
theorem dX3_partner_14 : decode cX3_partner 14 = .ok (.iload_n 1, 1) := by decide +kernel
theorem dX3_partner_15 : decode cX3_partner 15 = .ok (.iaload, 1) := by decide +kernel
theorem dX3_partner_16 : decode cX3_partner 16 = .ok (.ireturn, 1) := by decide +kernel
theorem dX3_partner_17 : decode cX3_partner 17 = .ok (.aload_n 0, 1) := by decide +kernel
theorem dX3_partner_18 : decode cX3_partner 18 = .ok (.getfield 15, 3) := by decide +kernel
theorem dX3_partner_21 : decode cX3_partner 21 = .ok (.iload_n 1, 1) := by decide +kernel
theorem dX3_partner_22 : decode cX3_partner 22 = .ok (.iaload, 1) := by decide +kernel
theorem dX3_partner_23 : decode cX3_partner 23 = .ok (.iload_n 2, 1) := by decide +kernel
theorem dX3_partner_24 : decode cX3_partner 24 = .ok (.if_icmp .ne 12, 3) := by decide +kernel
theorem dX3_partner_27 : decode cX3_partner 27 = .ok (.aload_n 0, 1) := by decide +kernel
theorem dX3_partner_28 : decode cX3_partner 28 = .ok (.getfield 9, 3) := by decide +kernel
theorem dX3_partner_31 : decode cX3_partner 31 = .ok (.iload_n 1, 1) := by decide +kernel
theorem dX3_partner_32 : decode cX3_partner 32 = .ok (.iaload, 1) := by decide +kernel
theorem dX3_partner_33 : decode cX3_partner 33 = .ok (.goto 4, 3) := by decide +kernel
theorem dX3_partner_36 : decode cX3_partner 36 = .ok (.iconst (-1), 1) := by decide +kernel
theorem dX3_partner_37 : decode cX3_partner 37 = .ok (.ireturn, 1) := by decide +kernel
theorem dX3_wayFor_0 : decode cX3_wayFor 0 = .ok (.aload_n 0, 1) := by decide +kernel
theorem dX3_wayFor_1 : decode cX3_wayFor 1 = .ok (.getfield 18, 3) := by decide +kernel
theorem dX3_wayFor_4 : decode cX3_wayFor 4 = .ok (.iload_n 1, 1) := by decide +kernel
theorem dX3_wayFor_5 : decode cX3_wayFor 5 = .ok (.iaload, 1) := by decide +kernel
theorem dX3_wayFor_6 : decode cX3_wayFor 6 = .ok (.istore_n 3, 1) := by decide +kernel
theorem dX3_wayFor_7 : decode cX3_wayFor 7 = .ok (.aload_n 0, 1) := by decide +kernel
theorem dX3_wayFor_8 : decode cX3_wayFor 8 = .ok (.getfield 9, 3) := by decide +kernel
theorem dX3_wayFor_11 : decode cX3_wayFor 11 = .ok (.iload_n 1, 1) := by decide +kernel
theorem dX3_wayFor_12 : decode cX3_wayFor 12 = .ok (.iaload, 1) := by decide +kernel
theorem dX3_wayFor_13 : decode cX3_wayFor 13 = .ok (.iload_n 2, 1) := by decide +kernel
theorem dX3_wayFor_14 : decode cX3_wayFor 14 = .ok (.if_icmp .eq 8, 3) := by decide +kernel
theorem dX3_wayFor_17 : decode cX3_wayFor 17 = .ok (.iload_n 3, 1) := by decide +kernel
theorem dX3_wayFor_18 : decode cX3_wayFor 18 = .ok (.iconst 4, 1) := by decide +kernel
theorem dX3_wayFor_19 : decode cX3_wayFor 19 = .ok (.if_icmp .ne 5, 3) := by decide +kernel
theorem dX3_wayFor_22 : decode cX3_wayFor 22 = .ok (.iload_n 3, 1) := by decide +kernel
theorem dX3_wayFor_23 : decode cX3_wayFor 23 = .ok (.ireturn, 1) := by decide +kernel
theorem dX3_wayFor_24 : decode cX3_wayFor 24 = .ok (.iload_n 3, 1) := by decide +kernel
theorem dX3_wayFor_25 : decode cX3_wayFor 25 = .ok (.iconst 1, 1) := by decide +kernel
theorem dX3_wayFor_26 : decode cX3_wayFor 26 = .ok (.ixor, 1) := by decide +kernel
theorem dX3_wayFor_27 : decode cX3_wayFor 27 = .ok (.ireturn, 1) := by decide +kernel
theorem dX3_joinsGoingIn_0 : decode cX3_joinsGoingIn 0 = .ok (.iconst 0, 1) := by decide +kernel
theorem dX3_joinsGoingIn_1 : decode cX3_joinsGoingIn 1 = .ok (.istore_n 2, 1) := by decide +kernel
theorem dX3_joinsGoingIn_2 : decode cX3_joinsGoingIn 2 = .ok (.iconst 0, 1) := by decide +kernel
theorem dX3_joinsGoingIn_3 : decode cX3_joinsGoingIn 3 = .ok (.istore_n 3, 1) := by decide +kernel
theorem dX3_joinsGoingIn_4 : decode cX3_joinsGoingIn 4 = .ok (.iload_n 3, 1) := by decide +kernel
theorem dX3_joinsGoingIn_5 : decode cX3_joinsGoingIn 5 = .ok (.aload_n 0, 1) := by decide +kernel
theorem dX3_joinsGoingIn_6 : decode cX3_joinsGoingIn 6 = .ok (.getfield 35, 3) := by decide +kernel
theorem dX3_joinsGoingIn_9 : decode cX3_joinsGoingIn 9 = .ok (.if_icmp .ge 27, 3) := by decide +kernel
theorem dX3_joinsGoingIn_12 : decode cX3_joinsGoingIn 12 = .ok (.iload_n 2, 1) := by decide +kernel
theorem dX3_joinsGoingIn_13 : decode cX3_joinsGoingIn 13 = .ok (.aload_n 0, 1) := by decide +kernel
theorem dX3_joinsGoingIn_14 : decode cX3_joinsGoingIn 14 = .ok (.getfield 9, 3) := by decide +kernel
theorem dX3_joinsGoingIn_17 : decode cX3_joinsGoingIn 17 = .ok (.iload_n 3, 1) := by decide +kernel
theorem dX3_joinsGoingIn_18 : decode cX3_joinsGoingIn 18 = .ok (.iaload, 1) := by decide +kernel
theorem dX3_joinsGoingIn_19 : decode cX3_joinsGoingIn 19 = .ok (.iload_n 1, 1) := by decide +kernel
theorem dX3_joinsGoingIn_20 : decode cX3_joinsGoingIn 20 = .ok (.if_icmp .ne 7, 3) := by decide +kernel
theorem dX3_joinsGoingIn_23 : decode cX3_joinsGoingIn 23 = .ok (.iconst 1, 1) := by decide +kernel
theorem dX3_joinsGoingIn_24 : decode cX3_joinsGoingIn 24 = .ok (.goto 4, 3) := by decide +kernel
theorem dX3_joinsGoingIn_27 : decode cX3_joinsGoingIn 27 = .ok (.iconst 0, 1) := by decide +kernel
theorem dX3_joinsGoingIn_28 : decode cX3_joinsGoingIn 28 = .ok (.iadd, 1) := by decide +kernel
theorem dX3_joinsGoingIn_29 : decode cX3_joinsGoingIn 29 = .ok (.istore_n 2, 1) := by decide +kernel
theorem dX3_joinsGoingIn_30 : decode cX3_joinsGoingIn 30 = .ok (.iinc 3 1, 3) := by decide +kernel
theorem dX3_joinsGoingIn_33 : decode cX3_joinsGoingIn 33 = .ok (.goto (-29), 3) := by decide +kernel
theorem dX3_joinsGoingIn_36 : decode cX3_joinsGoingIn 36 = .ok (.iload_n 2, 1) := by decide +kernel
theorem dX3_joinsGoingIn_37 : decode cX3_joinsGoingIn 37 = .ok (.ireturn, 1) := by decide +kernel
theorem dX3_isThinEnough_0 : decode cX3_isThinEnough 0 = .ok (.aload_n 2, 1) := by decide +kernel
theorem dX3_isThinEnough_1 : decode cX3_isThinEnough 1 = .ok (.getfield 43, 3) := by decide +kernel
theorem dX3_isThinEnough_4 : decode cX3_isThinEnough 4 = .ok (.aload_n 0, 1) := by decide +kernel
theorem dX3_isThinEnough_5 : decode cX3_isThinEnough 5 = .ok (.getfield 9, 3) := by decide +kernel
theorem dX3_isThinEnough_8 : decode cX3_isThinEnough 8 = .ok (.iload_n 1, 1) := by decide +kernel
theorem dX3_isThinEnough_9 : decode cX3_isThinEnough 9 = .ok (.iaload, 1) := by decide +kernel
theorem dX3_isThinEnough_10 : decode cX3_isThinEnough 10 = .ok (.iaload, 1) := by decide +kernel
theorem dX3_isThinEnough_11 : decode cX3_isThinEnough 11 = .ok (.istore_n 3, 1) := by decide +kernel
theorem dX3_isThinEnough_12 : decode cX3_isThinEnough 12 = .ok (.aload_n 2, 1) := by decide +kernel
theorem dX3_isThinEnough_13 : decode cX3_isThinEnough 13 = .ok (.getfield 43, 3) := by decide +kernel
theorem dX3_isThinEnough_16 : decode cX3_isThinEnough 16 = .ok (.aload_n 0, 1) := by decide +kernel
theorem dX3_isThinEnough_17 : decode cX3_isThinEnough 17 = .ok (.getfield 15, 3) := by decide +kernel
theorem dX3_isThinEnough_20 : decode cX3_isThinEnough 20 = .ok (.iload_n 1, 1) := by decide +kernel
theorem dX3_isThinEnough_21 : decode cX3_isThinEnough 21 = .ok (.iaload, 1) := by decide +kernel
theorem dX3_isThinEnough_22 : decode cX3_isThinEnough 22 = .ok (.iaload, 1) := by decide +kernel
theorem dX3_isThinEnough_23 : decode cX3_isThinEnough 23 = .ok (.istore 4, 2) := by decide +kernel
theorem dX3_isThinEnough_25 : decode cX3_isThinEnough 25 = .ok (.aload_n 0, 1) := by decide +kernel
theorem dX3_isThinEnough_26 : decode cX3_isThinEnough 26 = .ok (.getfield 21, 3) := by decide +kernel
theorem dX3_isThinEnough_29 : decode cX3_isThinEnough 29 = .ok (.iload_n 1, 1) := by decide +kernel
theorem dX3_isThinEnough_30 : decode cX3_isThinEnough 30 = .ok (.iaload, 1) := by decide +kernel
theorem dX3_isThinEnough_31 : decode cX3_isThinEnough 31 = .ok (.iload_n 3, 1) := by decide +kernel
theorem dX3_isThinEnough_32 : decode cX3_isThinEnough 32 = .ok (.iload 4, 2) := by decide +kernel
theorem dX3_isThinEnough_34 : decode cX3_isThinEnough 34 = .ok (.invokestatic 48, 3) := by decide +kernel
theorem dX3_isThinEnough_37 : decode cX3_isThinEnough 37 = .ok (.iconst 3, 1) := by decide +kernel
theorem dX3_isThinEnough_38 : decode cX3_isThinEnough 38 = .ok (.idiv, 1) := by decide +kernel
theorem dX3_isThinEnough_39 : decode cX3_isThinEnough 39 = .ok (.if_icmp .gt 7, 3) := by decide +kernel
theorem dX3_isThinEnough_42 : decode cX3_isThinEnough 42 = .ok (.iconst 1, 1) := by decide +kernel
theorem dX3_isThinEnough_43 : decode cX3_isThinEnough 43 = .ok (.goto 4, 3) := by decide +kernel
theorem dX3_isThinEnough_46 : decode cX3_isThinEnough 46 = .ok (.iconst 0, 1) := by decide +kernel
theorem dX3_isThinEnough_47 : decode cX3_isThinEnough 47 = .ok (.ireturn, 1) := by decide +kernel
theorem dX3_misreadMark_0 : decode cX3_misreadMark 0 = .ok (.iconst 0, 1) := by decide +kernel
theorem dX3_misreadMark_1 : decode cX3_misreadMark 1 = .ok (.istore_n 2, 1) := by decide +kernel
theorem dX3_misreadMark_2 : decode cX3_misreadMark 2 = .ok (.iconst 0, 1) := by decide +kernel
theorem dX3_misreadMark_3 : decode cX3_misreadMark 3 = .ok (.istore_n 3, 1) := by decide +kernel
theorem dX3_misreadMark_4 : decode cX3_misreadMark 4 = .ok (.iload_n 3, 1) := by decide +kernel
theorem dX3_misreadMark_5 : decode cX3_misreadMark 5 = .ok (.iconst 5, 1) := by decide +kernel
theorem dX3_misreadMark_6 : decode cX3_misreadMark 6 = .ok (.if_icmp .ge 24, 3) := by decide +kernel
theorem dX3_misreadMark_9 : decode cX3_misreadMark 9 = .ok (.iload_n 2, 1) := by decide +kernel
theorem dX3_misreadMark_10 : decode cX3_misreadMark 10 = .ok (.iconst 1, 1) := by decide +kernel
theorem dX3_misreadMark_11 : decode cX3_misreadMark 11 = .ok (.ishl, 1) := by decide +kernel
theorem dX3_misreadMark_12 : decode cX3_misreadMark 12 = .ok (.aload_n 0, 1) := by decide +kernel
theorem dX3_misreadMark_13 : decode cX3_misreadMark 13 = .ok (.getfield 24, 3) := by decide +kernel
theorem dX3_misreadMark_16 : decode cX3_misreadMark 16 = .ok (.iload_n 1, 1) := by decide +kernel
theorem dX3_misreadMark_17 : decode cX3_misreadMark 17 = .ok (.iaload, 1) := by decide +kernel
theorem dX3_misreadMark_18 : decode cX3_misreadMark 18 = .ok (.iload_n 3, 1) := by decide +kernel
theorem dX3_misreadMark_19 : decode cX3_misreadMark 19 = .ok (.ishr, 1) := by decide +kernel
theorem dX3_misreadMark_20 : decode cX3_misreadMark 20 = .ok (.iconst 1, 1) := by decide +kernel
theorem dX3_misreadMark_21 : decode cX3_misreadMark 21 = .ok (.iand, 1) := by decide +kernel
theorem dX3_misreadMark_22 : decode cX3_misreadMark 22 = .ok (.ior, 1) := by decide +kernel
theorem dX3_misreadMark_23 : decode cX3_misreadMark 23 = .ok (.istore_n 2, 1) := by decide +kernel
theorem dX3_misreadMark_24 : decode cX3_misreadMark 24 = .ok (.iinc 3 1, 3) := by decide +kernel
theorem dX3_misreadMark_27 : decode cX3_misreadMark 27 = .ok (.goto (-23), 3) := by decide +kernel
theorem dX3_misreadMark_30 : decode cX3_misreadMark 30 = .ok (.iload_n 2, 1) := by decide +kernel
theorem dX3_misreadMark_31 : decode cX3_misreadMark 31 = .ok (.ireturn, 1) := by decide +kernel
theorem dX3_canBeConfused_0 : decode cX3_canBeConfused 0 = .ok (.aload_n 0, 1) := by decide +kernel
theorem dX3_canBeConfused_1 : decode cX3_canBeConfused 1 = .ok (.getfield 24, 3) := by decide +kernel
theorem dX3_canBeConfused_4 : decode cX3_canBeConfused 4 = .ok (.iload_n 1, 1) := by decide +kernel
theorem dX3_canBeConfused_5 : decode cX3_canBeConfused 5 = .ok (.iaload, 1) := by decide +kernel
theorem dX3_canBeConfused_6 : decode cX3_canBeConfused 6 = .ok (.aload_n 0, 1) := by decide +kernel
theorem dX3_canBeConfused_7 : decode cX3_canBeConfused 7 = .ok (.getfield 24, 3) := by decide +kernel
theorem dX3_canBeConfused_10 : decode cX3_canBeConfused 10 = .ok (.iload_n 2, 1) := by decide +kernel
theorem dX3_canBeConfused_11 : decode cX3_canBeConfused 11 = .ok (.iaload, 1) := by decide +kernel
theorem dX3_canBeConfused_12 : decode cX3_canBeConfused 12 = .ok (.if_icmp .eq 17, 3) := by decide +kernel
theorem dX3_canBeConfused_15 : decode cX3_canBeConfused 15 = .ok (.aload_n 0, 1) := by decide +kernel
theorem dX3_canBeConfused_16 : decode cX3_canBeConfused 16 = .ok (.iload_n 1, 1) := by decide +kernel
theorem dX3_canBeConfused_17 : decode cX3_canBeConfused 17 = .ok (.invokevirtual 53, 3) := by decide +kernel
theorem dX3_canBeConfused_20 : decode cX3_canBeConfused 20 = .ok (.aload_n 0, 1) := by decide +kernel
theorem dX3_canBeConfused_21 : decode cX3_canBeConfused 21 = .ok (.getfield 24, 3) := by decide +kernel
theorem dX3_canBeConfused_24 : decode cX3_canBeConfused 24 = .ok (.iload_n 2, 1) := by decide +kernel
theorem dX3_canBeConfused_25 : decode cX3_canBeConfused 25 = .ok (.iaload, 1) := by decide +kernel
theorem dX3_canBeConfused_26 : decode cX3_canBeConfused 26 = .ok (.if_icmp .ne 7, 3) := by decide +kernel
theorem dX3_canBeConfused_29 : decode cX3_canBeConfused 29 = .ok (.iconst 1, 1) := by decide +kernel
theorem dX3_canBeConfused_30 : decode cX3_canBeConfused 30 = .ok (.goto 4, 3) := by decide +kernel
theorem dX3_canBeConfused_33 : decode cX3_canBeConfused 33 = .ok (.iconst 0, 1) := by decide +kernel
theorem dX3_canBeConfused_34 : decode cX3_canBeConfused 34 = .ok (.ireturn, 1) := by decide +kernel
theorem dX3_opening_0 : decode cX3_opening 0 = .ok (.aload_n 0, 1) := by decide +kernel
theorem dX3_opening_1 : decode cX3_opening 1 = .ok (.getfield 9, 3) := by decide +kernel
theorem dX3_opening_4 : decode cX3_opening 4 = .ok (.iload_n 1, 1) := by decide +kernel
theorem dX3_opening_5 : decode cX3_opening 5 = .ok (.iaload, 1) := by decide +kernel
theorem dX3_opening_6 : decode cX3_opening 6 = .ok (.istore_n 3, 1) := by decide +kernel
theorem dX3_opening_7 : decode cX3_opening 7 = .ok (.aload_n 2, 1) := by decide +kernel
theorem dX3_opening_8 : decode cX3_opening 8 = .ok (.getfield 56, 3) := by decide +kernel
theorem dX3_opening_11 : decode cX3_opening 11 = .ok (.iload_n 3, 1) := by decide +kernel
theorem dX3_opening_12 : decode cX3_opening 12 = .ok (.iaload, 1) := by decide +kernel
theorem dX3_opening_13 : decode cX3_opening 13 = .ok (.aload_n 2, 1) := by decide +kernel
theorem dX3_opening_14 : decode cX3_opening 14 = .ok (.getfield 59, 3) := by decide +kernel
theorem dX3_opening_17 : decode cX3_opening 17 = .ok (.iload_n 3, 1) := by decide +kernel
theorem dX3_opening_18 : decode cX3_opening 18 = .ok (.iaload, 1) := by decide +kernel
theorem dX3_opening_19 : decode cX3_opening 19 = .ok (.isub, 1) := by decide +kernel
theorem dX3_opening_20 : decode cX3_opening 20 = .ok (.istore 4, 2) := by decide +kernel
theorem dX3_opening_22 : decode cX3_opening 22 = .ok (.aload_n 0, 1) := by decide +kernel
theorem dX3_opening_23 : decode cX3_opening 23 = .ok (.getfield 21, 3) := by decide +kernel
theorem dX3_opening_26 : decode cX3_opening 26 = .ok (.iload_n 1, 1) := by decide +kernel
theorem dX3_opening_27 : decode cX3_opening 27 = .ok (.iaload, 1) := by decide +kernel
theorem dX3_opening_28 : decode cX3_opening 28 = .ok (.istore 5, 2) := by decide +kernel
theorem dX3_opening_30 : decode cX3_opening 30 = .ok (.iload 4, 2) := by decide +kernel
theorem dX3_opening_32 : decode cX3_opening 32 = .ok (.ifCond .le 24, 3) := by decide +kernel
theorem dX3_opening_35 : decode cX3_opening 35 = .ok (.iload 5, 2) := by decide +kernel
theorem dX3_opening_37 : decode cX3_opening 37 = .ok (.iload 5, 2) := by decide +kernel
theorem dX3_opening_39 : decode cX3_opening 39 = .ok (.sipush 1000, 3) := by decide +kernel
theorem dX3_opening_42 : decode cX3_opening 42 = .ok (.iconst 3, 1) := by decide +kernel
theorem dX3_opening_43 : decode cX3_opening 43 = .ok (.iload 4, 2) := by decide +kernel
theorem dX3_opening_45 : decode cX3_opening 45 = .ok (.imul, 1) := by decide +kernel
theorem dX3_opening_46 : decode cX3_opening 46 = .ok (.isub, 1) := by decide +kernel
theorem dX3_opening_47 : decode cX3_opening 47 = .ok (.imul, 1) := by decide +kernel
theorem dX3_opening_48 : decode cX3_opening 48 = .ok (.sipush 1000, 3) := by decide +kernel
theorem dX3_opening_51 : decode cX3_opening 51 = .ok (.idiv, 1) := by decide +kernel
theorem dX3_opening_52 : decode cX3_opening 52 = .ok (.isub, 1) := by decide +kernel
theorem dX3_opening_53 : decode cX3_opening 53 = .ok (.goto 4, 3) := by decide +kernel
theorem dX3_opening_56 : decode cX3_opening 56 = .ok (.iconst 0, 1) := by decide +kernel
theorem dX3_opening_57 : decode cX3_opening 57 = .ok (.ireturn, 1) := by decide +kernel
theorem dX4_init_0 : decode cX4_init 0 = .ok (.aload_n 0, 1) := by decide +kernel
theorem dX4_init_1 : decode cX4_init 1 = .ok (.invokespecial 3, 3) := by decide +kernel
theorem dX4_init_4 : decode cX4_init 4 = .ok (.aload_n 0, 1) := by decide +kernel
theorem dX4_init_5 : decode cX4_init 5 = .ok (.iconst 2, 1) := by decide +kernel
theorem dX4_init_6 : decode cX4_init 6 = .ok (.putfield 9, 3) := by decide +kernel
theorem dX4_init_9 : decode cX4_init 9 = .ok (.aload_n 0, 1) := by decide +kernel
theorem dX4_init_10 : decode cX4_init 10 = .ok (.bipush 45, 2) := by decide +kernel
theorem dX4_init_12 : decode cX4_init 12 = .ok (.newarray .int, 2) := by decide +kernel
theorem dX4_init_14 : decode cX4_init 14 = .ok (.putfield 17, 3) := by decide +kernel
theorem dX4_init_17 : decode cX4_init 17 = .ok (.aload_n 0, 1) := by decide +kernel
theorem dX4_init_18 : decode cX4_init 18 = .ok (.bipush 9, 2) := by decide +kernel
theorem dX4_init_20 : decode cX4_init 20 = .ok (.newarray .int, 2) := by decide +kernel
theorem dX4_init_22 : decode cX4_init 22 = .ok (.putfield 21, 3) := by decide +kernel
theorem dX4_init_25 : decode cX4_init 25 = .ok (.aload_n 0, 1) := by decide +kernel
theorem dX4_init_26 : decode cX4_init 26 = .ok (.sipush 512, 3) := by decide +kernel
theorem dX4_init_29 : decode cX4_init 29 = .ok (.newarray .int, 2) := by decide +kernel
theorem dX4_init_31 : decode cX4_init 31 = .ok (.putfield 24, 3) := by decide +kernel
theorem dX4_init_34 : decode cX4_init 34 = .ok (.aload_n 0, 1) := by decide +kernel
theorem dX4_init_35 : decode cX4_init 35 = .ok (.sipush 512, 3) := by decide +kernel
theorem dX4_init_38 : decode cX4_init 38 = .ok (.newarray .boolean, 2) := by decide +kernel
theorem dX4_init_40 : decode cX4_init 40 = .ok (.putfield 27, 3) := by decide +kernel
theorem dX4_init_43 : decode cX4_init 43 = .ok (.aload_n 0, 1) := by decide +kernel
theorem dX4_init_44 : decode cX4_init 44 = .ok (.bipush 9, 2) := by decide +kernel
theorem dX4_init_46 : decode cX4_init 46 = .ok (.newarray .int, 2) := by decide +kernel
theorem dX4_init_48 : decode cX4_init 48 = .ok (.putfield 31, 3) := by decide +kernel
theorem dX4_init_51 : decode cX4_init 51 = .ok (.return_, 1) := by decide +kernel
theorem dX4_orderCount_0 : decode cX4_orderCount 0 = .ok (.aload_n 0, 1) := by decide +kernel
theorem dX4_orderCount_1 : decode cX4_orderCount 1 = .ok (.getfield 24, 3) := by decide +kernel
theorem dX4_orderCount_4 : decode cX4_orderCount 4 = .ok (.aload_n 0, 1) := by decide +kernel
theorem dX4_orderCount_5 : decode cX4_orderCount 5 = .ok (.getfield 34, 3) := by decide +kernel
theorem dX4_orderCount_8 : decode cX4_orderCount 8 = .ok (.iaload, 1) := by decide +kernel
theorem dX4_orderCount_9 : decode cX4_orderCount 9 = .ok (.ireturn, 1) := by decide +kernel
theorem dX4_find_0 : decode cX4_find 0 = .ok (.aload_n 0, 1) := by decide +kernel
theorem dX4_find_1 : decode cX4_find 1 = .ok (.getfield 37, 3) := by decide +kernel
theorem dX4_find_4 : decode cX4_find 4 = .ok (.ifCond .eq 4, 3) := by decide +kernel
theorem dX4_find_7 : decode cX4_find 7 = .ok (.return_, 1) := by decide +kernel
theorem dX4_find_8 : decode cX4_find 8 = .ok (.aload_n 0, 1) := by decide +kernel
theorem dX4_find_9 : decode cX4_find 9 = .ok (.iconst 1, 1) := by decide +kernel
theorem dX4_find_10 : decode cX4_find 10 = .ok (.aload_n 1, 1) := by decide +kernel
theorem dX4_find_11 : decode cX4_find 11 = .ok (.getfield 41, 3) := by decide +kernel
theorem dX4_find_14 : decode cX4_find 14 = .ok (.ishl, 1) := by decide +kernel
theorem dX4_find_15 : decode cX4_find 15 = .ok (.iconst 1, 1) := by decide +kernel
theorem dX4_find_16 : decode cX4_find 16 = .ok (.isub, 1) := by decide +kernel
theorem dX4_find_17 : decode cX4_find 17 = .ok (.putfield 34, 3) := by decide +kernel
theorem dX4_find_20 : decode cX4_find 20 = .ok (.aload_n 0, 1) := by decide +kernel
theorem dX4_find_21 : decode cX4_find 21 = .ok (.aload_n 1, 1) := by decide +kernel
theorem dX4_find_22 : decode cX4_find 22 = .ok (.aload_n 2, 1) := by decide +kernel
theorem dX4_find_23 : decode cX4_find 23 = .ok (.invokevirtual 46, 3) := by decide +kernel
theorem dX4_find_26 : decode cX4_find 26 = .ok (.aload_n 0, 1) := by decide +kernel
theorem dX4_find_27 : decode cX4_find 27 = .ok (.aload_n 1, 1) := by decide +kernel
theorem dX4_find_28 : decode cX4_find 28 = .ok (.getfield 41, 3) := by decide +kernel
theorem dX4_find_31 : decode cX4_find 31 = .ok (.invokevirtual 50, 3) := by decide +kernel
theorem dX4_find_34 : decode cX4_find 34 = .ok (.aload_n 0, 1) := by decide +kernel
theorem dX4_find_35 : decode cX4_find 35 = .ok (.aload_n 1, 1) := by decide +kernel
theorem dX4_find_36 : decode cX4_find 36 = .ok (.getfield 41, 3) := by decide +kernel
theorem dX4_find_39 : decode cX4_find 39 = .ok (.invokevirtual 54, 3) := by decide +kernel
theorem dX4_find_42 : decode cX4_find 42 = .ok (.aload_n 0, 1) := by decide +kernel
theorem dX4_find_43 : decode cX4_find 43 = .ok (.aload_n 1, 1) := by decide +kernel
theorem dX4_find_44 : decode cX4_find 44 = .ok (.getfield 41, 3) := by decide +kernel
theorem dX4_find_47 : decode cX4_find 47 = .ok (.invokevirtual 57, 3) := by decide +kernel
theorem dX4_find_50 : decode cX4_find 50 = .ok (.aload_n 0, 1) := by decide +kernel
theorem dX4_find_51 : decode cX4_find 51 = .ok (.iconst 1, 1) := by decide +kernel
theorem dX4_find_52 : decode cX4_find 52 = .ok (.putfield 37, 3) := by decide +kernel
theorem dX4_find_55 : decode cX4_find 55 = .ok (.return_, 1) := by decide +kernel
theorem dX4_gather_0 : decode cX4_gather 0 = .ok (.aload_n 0, 1) := by decide +kernel
theorem dX4_gather_1 : decode cX4_gather 1 = .ok (.iconst 0, 1) := by decide +kernel
theorem dX4_gather_2 : decode cX4_gather 2 = .ok (.putfield 60, 3) := by decide +kernel
theorem dX4_gather_5 : decode cX4_gather 5 = .ok (.iconst 0, 1) := by decide +kernel
theorem dX4_gather_6 : decode cX4_gather 6 = .ok (.istore_n 3, 1) := by decide +kernel
theorem dX4_gather_7 : decode cX4_gather 7 = .ok (.iload_n 3, 1) := by decide +kernel
theorem dX4_gather_8 : decode cX4_gather 8 = .ok (.aload_n 1, 1) := by decide +kernel
theorem dX4_gather_9 : decode cX4_gather 9 = .ok (.getfield 41, 3) := by decide +kernel
theorem dX4_gather_12 : decode cX4_gather 12 = .ok (.if_icmp .ge 135, 3) := by decide +kernel
theorem dX4_gather_15 : decode cX4_gather 15 = .ok (.aload_n 0, 1) := by decide +kernel
theorem dX4_gather_16 : decode cX4_gather 16 = .ok (.dup, 1) := by decide +kernel
theorem dX4_gather_17 : decode cX4_gather 17 = .ok (.getfield 60, 3) := by decide +kernel
theorem dX4_gather_20 : decode cX4_gather 20 = .ok (.aload_n 1, 1) := by decide +kernel
theorem dX4_gather_21 : decode cX4_gather 21 = .ok (.iload_n 3, 1) := by decide +kernel
theorem dX4_gather_22 : decode cX4_gather 22 = .ok (.invokevirtual 63, 3) := by decide +kernel
theorem dX4_gather_25 : decode cX4_gather 25 = .ok (.ifCond .eq 7, 3) := by decide +kernel
theorem dX4_gather_28 : decode cX4_gather 28 = .ok (.iconst 0, 1) := by decide +kernel
theorem dX4_gather_29 : decode cX4_gather 29 = .ok (.goto 6, 3) := by decide +kernel
theorem dX4_gather_32 : decode cX4_gather 32 = .ok (.iconst 1, 1) := by decide +kernel
theorem dX4_gather_33 : decode cX4_gather 33 = .ok (.iload_n 3, 1) := by decide +kernel
theorem dX4_gather_34 : decode cX4_gather 34 = .ok (.ishl, 1) := by decide +kernel
theorem dX4_gather_35 : decode cX4_gather 35 = .ok (.ior, 1) := by decide +kernel
theorem dX4_gather_36 : decode cX4_gather 36 = .ok (.putfield 60, 3) := by decide +kernel
theorem dX4_gather_39 : decode cX4_gather 39 = .ok (.aload_n 0, 1) := by decide +kernel
theorem dX4_gather_40 : decode cX4_gather 40 = .ok (.getfield 21, 3) := by decide +kernel
theorem dX4_gather_43 : decode cX4_gather 43 = .ok (.iload_n 3, 1) := by decide +kernel
theorem dX4_gather_44 : decode cX4_gather 44 = .ok (.iconst 0, 1) := by decide +kernel
theorem dX4_gather_45 : decode cX4_gather 45 = .ok (.iastore, 1) := by decide +kernel
theorem dX4_gather_46 : decode cX4_gather 46 = .ok (.iconst 0, 1) := by decide +kernel
theorem dX4_gather_47 : decode cX4_gather 47 = .ok (.istore 4, 2) := by decide +kernel
theorem dX4_gather_49 : decode cX4_gather 49 = .ok (.iload 4, 2) := by decide +kernel
theorem dX4_gather_51 : decode cX4_gather 51 = .ok (.iconst 5, 1) := by decide +kernel
theorem dX4_gather_52 : decode cX4_gather 52 = .ok (.if_icmp .ge 21, 3) := by decide +kernel
theorem dX4_gather_55 : decode cX4_gather 55 = .ok (.aload_n 0, 1) := by decide +kernel
theorem dX4_gather_56 : decode cX4_gather 56 = .ok (.getfield 17, 3) := by decide +kernel
theorem dX4_gather_59 : decode cX4_gather 59 = .ok (.iload_n 3, 1) := by decide +kernel
theorem dX4_gather_60 : decode cX4_gather 60 = .ok (.iconst 5, 1) := by decide +kernel
theorem dX4_gather_61 : decode cX4_gather 61 = .ok (.imul, 1) := by decide +kernel
theorem dX4_gather_62 : decode cX4_gather 62 = .ok (.iload 4, 2) := by decide +kernel
theorem dX4_gather_64 : decode cX4_gather 64 = .ok (.iadd, 1) := by decide +kernel
theorem dX4_gather_65 : decode cX4_gather 65 = .ok (.iconst 0, 1) := by decide +kernel
theorem dX4_gather_66 : decode cX4_gather 66 = .ok (.iastore, 1) := by decide +kernel
theorem dX4_gather_67 : decode cX4_gather 67 = .ok (.iinc 4 1, 3) := by decide +kernel
theorem dX4_gather_70 : decode cX4_gather 70 = .ok (.goto (-21), 3) := by decide +kernel
theorem dX4_gather_73 : decode cX4_gather 73 = .ok (.iconst 0, 1) := by decide +kernel
theorem dX4_gather_74 : decode cX4_gather 74 = .ok (.istore 4, 2) := by decide +kernel
theorem dX4_gather_76 : decode cX4_gather 76 = .ok (.iload 4, 2) := by decide +kernel
theorem dX4_gather_78 : decode cX4_gather 78 = .ok (.aload_n 2, 1) := by decide +kernel
theorem dX4_gather_79 : decode cX4_gather 79 = .ok (.getfield 67, 3) := by decide +kernel
theorem dX4_gather_82 : decode cX4_gather 82 = .ok (.if_icmp .ge 59, 3) := by decide +kernel
theorem dX4_gather_85 : decode cX4_gather 85 = .ok (.aload_n 2, 1) := by decide +kernel
theorem dX4_gather_86 : decode cX4_gather 86 = .ok (.iload 4, 2) := by decide +kernel
theorem dX4_gather_88 : decode cX4_gather 88 = .ok (.iload_n 3, 1) := by decide +kernel
theorem dX4_gather_89 : decode cX4_gather 89 = .ok (.invokevirtual 70, 3) := by decide +kernel
theorem dX4_gather_92 : decode cX4_gather 92 = .ok (.istore 5, 2) := by decide +kernel
theorem dX4_gather_94 : decode cX4_gather 94 = .ok (.iload 5, 2) := by decide +kernel
theorem dX4_gather_96 : decode cX4_gather 96 = .ok (.ifCond .lt 39, 3) := by decide +kernel
theorem dX4_gather_99 : decode cX4_gather 99 = .ok (.aload_n 0, 1) := by decide +kernel
theorem dX4_gather_100 : decode cX4_gather 100 = .ok (.getfield 21, 3) := by decide +kernel
theorem dX4_gather_103 : decode cX4_gather 103 = .ok (.iload_n 3, 1) := by decide +kernel
theorem dX4_gather_104 : decode cX4_gather 104 = .ok (.dup2, 1) := by decide +kernel
theorem dX4_gather_105 : decode cX4_gather 105 = .ok (.iaload, 1) := by decide +kernel
theorem dX4_gather_106 : decode cX4_gather 106 = .ok (.iconst 1, 1) := by decide +kernel
theorem dX4_gather_107 : decode cX4_gather 107 = .ok (.iload 5, 2) := by decide +kernel
theorem dX4_gather_109 : decode cX4_gather 109 = .ok (.ishl, 1) := by decide +kernel
theorem dX4_gather_110 : decode cX4_gather 110 = .ok (.ior, 1) := by decide +kernel
theorem dX4_gather_111 : decode cX4_gather 111 = .ok (.iastore, 1) := by decide +kernel
theorem dX4_gather_112 : decode cX4_gather 112 = .ok (.aload_n 0, 1) := by decide +kernel
theorem dX4_gather_113 : decode cX4_gather 113 = .ok (.getfield 17, 3) := by decide +kernel
theorem dX4_gather_116 : decode cX4_gather 116 = .ok (.iload_n 3, 1) := by decide +kernel
theorem dX4_gather_117 : decode cX4_gather 117 = .ok (.iconst 5, 1) := by decide +kernel
theorem dX4_gather_118 : decode cX4_gather 118 = .ok (.imul, 1) := by decide +kernel
theorem dX4_gather_119 : decode cX4_gather 119 = .ok (.aload_n 2, 1) := by decide +kernel
theorem dX4_gather_120 : decode cX4_gather 120 = .ok (.iload 4, 2) := by decide +kernel
theorem dX4_gather_122 : decode cX4_gather 122 = .ok (.iload_n 3, 1) := by decide +kernel
theorem dX4_gather_123 : decode cX4_gather 123 = .ok (.invokevirtual 74, 3) := by decide +kernel
theorem dX4_gather_126 : decode cX4_gather 126 = .ok (.iadd, 1) := by decide +kernel
theorem dX4_gather_127 : decode cX4_gather 127 = .ok (.dup2, 1) := by decide +kernel
theorem dX4_gather_128 : decode cX4_gather 128 = .ok (.iaload, 1) := by decide +kernel
theorem dX4_gather_129 : decode cX4_gather 129 = .ok (.iconst 1, 1) := by decide +kernel
theorem dX4_gather_130 : decode cX4_gather 130 = .ok (.iload 5, 2) := by decide +kernel
theorem dX4_gather_132 : decode cX4_gather 132 = .ok (.ishl, 1) := by decide +kernel
theorem dX4_gather_133 : decode cX4_gather 133 = .ok (.ior, 1) := by decide +kernel
theorem dX4_gather_134 : decode cX4_gather 134 = .ok (.iastore, 1) := by decide +kernel
theorem dX4_gather_135 : decode cX4_gather 135 = .ok (.iinc 4 1, 3) := by decide +kernel
theorem dX4_gather_138 : decode cX4_gather 138 = .ok (.goto (-62), 3) := by decide +kernel
theorem dX4_gather_141 : decode cX4_gather 141 = .ok (.iinc 3 1, 3) := by decide +kernel
theorem dX4_gather_144 : decode cX4_gather 144 = .ok (.goto (-137), 3) := by decide +kernel
theorem dX4_gather_147 : decode cX4_gather 147 = .ok (.return_, 1) := by decide +kernel
theorem dX4_canMoveIn_0 : decode cX4_canMoveIn 0 = .ok (.iconst 0, 1) := by decide +kernel
theorem dX4_canMoveIn_1 : decode cX4_canMoveIn 1 = .ok (.istore_n 3, 1) := by decide +kernel
theorem dX4_canMoveIn_2 : decode cX4_canMoveIn 2 = .ok (.iconst 0, 1) := by decide +kernel
theorem dX4_canMoveIn_3 : decode cX4_canMoveIn 3 = .ok (.istore 4, 2) := by decide +kernel
theorem dX4_canMoveIn_5 : decode cX4_canMoveIn 5 = .ok (.iload 4, 2) := by decide +kernel
theorem dX4_canMoveIn_7 : decode cX4_canMoveIn 7 = .ok (.iconst 5, 1) := by decide +kernel
theorem dX4_canMoveIn_8 : decode cX4_canMoveIn 8 = .ok (.if_icmp .ge 33, 3) := by decide +kernel
theorem dX4_canMoveIn_11 : decode cX4_canMoveIn 11 = .ok (.iload_n 3, 1) := by decide +kernel
theorem dX4_canMoveIn_12 : decode cX4_canMoveIn 12 = .ok (.aload_n 0, 1) := by decide +kernel
theorem dX4_canMoveIn_13 : decode cX4_canMoveIn 13 = .ok (.getfield 17, 3) := by decide +kernel
theorem dX4_canMoveIn_16 : decode cX4_canMoveIn 16 = .ok (.iload_n 1, 1) := by decide +kernel
theorem dX4_canMoveIn_17 : decode cX4_canMoveIn 17 = .ok (.iconst 5, 1) := by decide +kernel
theorem dX4_canMoveIn_18 : decode cX4_canMoveIn 18 = .ok (.imul, 1) := by decide +kernel
theorem dX4_canMoveIn_19 : decode cX4_canMoveIn 19 = .ok (.iload 4, 2) := by decide +kernel
theorem dX4_canMoveIn_21 : decode cX4_canMoveIn 21 = .ok (.iadd, 1) := by decide +kernel
theorem dX4_canMoveIn_22 : decode cX4_canMoveIn 22 = .ok (.iaload, 1) := by decide +kernel
theorem dX4_canMoveIn_23 : decode cX4_canMoveIn 23 = .ok (.iload_n 2, 1) := by decide +kernel
theorem dX4_canMoveIn_24 : decode cX4_canMoveIn 24 = .ok (.iand, 1) := by decide +kernel
theorem dX4_canMoveIn_25 : decode cX4_canMoveIn 25 = .ok (.ifCond .eq 7, 3) := by decide +kernel
theorem dX4_canMoveIn_28 : decode cX4_canMoveIn 28 = .ok (.iconst 1, 1) := by decide +kernel
theorem dX4_canMoveIn_29 : decode cX4_canMoveIn 29 = .ok (.goto 4, 3) := by decide +kernel
theorem dX4_canMoveIn_32 : decode cX4_canMoveIn 32 = .ok (.iconst 0, 1) := by decide +kernel
theorem dX4_canMoveIn_33 : decode cX4_canMoveIn 33 = .ok (.iadd, 1) := by decide +kernel
theorem dX4_canMoveIn_34 : decode cX4_canMoveIn 34 = .ok (.istore_n 3, 1) := by decide +kernel
theorem dX4_canMoveIn_35 : decode cX4_canMoveIn 35 = .ok (.iinc 4 1, 3) := by decide +kernel
theorem dX4_canMoveIn_38 : decode cX4_canMoveIn 38 = .ok (.goto (-33), 3) := by decide +kernel
theorem dX4_canMoveIn_41 : decode cX4_canMoveIn 41 = .ok (.iload_n 3, 1) := by decide +kernel
theorem dX4_canMoveIn_42 : decode cX4_canMoveIn 42 = .ok (.iconst 1, 1) := by decide +kernel
theorem dX4_canMoveIn_43 : decode cX4_canMoveIn 43 = .ok (.if_icmp .gt 7, 3) := by decide +kernel
theorem dX4_canMoveIn_46 : decode cX4_canMoveIn 46 = .ok (.iconst 1, 1) := by decide +kernel
theorem dX4_canMoveIn_47 : decode cX4_canMoveIn 47 = .ok (.goto 4, 3) := by decide +kernel
theorem dX4_canMoveIn_50 : decode cX4_canMoveIn 50 = .ok (.iconst 0, 1) := by decide +kernel
theorem dX4_canMoveIn_51 : decode cX4_canMoveIn 51 = .ok (.ireturn, 1) := by decide +kernel
theorem dX4_propsFor_0 : decode cX4_propsFor 0 = .ok (.iconst 0, 1) := by decide +kernel
theorem dX4_propsFor_1 : decode cX4_propsFor 1 = .ok (.istore_n 2, 1) := by decide +kernel
theorem dX4_propsFor_2 : decode cX4_propsFor 2 = .ok (.iconst 0, 1) := by decide +kernel
theorem dX4_propsFor_3 : decode cX4_propsFor 3 = .ok (.istore_n 3, 1) := by decide +kernel
theorem dX4_propsFor_4 : decode cX4_propsFor 4 = .ok (.iload_n 3, 1) := by decide +kernel
theorem dX4_propsFor_5 : decode cX4_propsFor 5 = .ok (.bipush 9, 2) := by decide +kernel
theorem dX4_propsFor_7 : decode cX4_propsFor 7 = .ok (.if_icmp .ge 52, 3) := by decide +kernel
theorem dX4_propsFor_10 : decode cX4_propsFor 10 = .ok (.iload_n 1, 1) := by decide +kernel
theorem dX4_propsFor_11 : decode cX4_propsFor 11 = .ok (.aload_n 0, 1) := by decide +kernel
theorem dX4_propsFor_12 : decode cX4_propsFor 12 = .ok (.getfield 60, 3) := by decide +kernel
theorem dX4_propsFor_15 : decode cX4_propsFor 15 = .ok (.iand, 1) := by decide +kernel
theorem dX4_propsFor_16 : decode cX4_propsFor 16 = .ok (.iconst 1, 1) := by decide +kernel
theorem dX4_propsFor_17 : decode cX4_propsFor 17 = .ok (.iload_n 3, 1) := by decide +kernel
theorem dX4_propsFor_18 : decode cX4_propsFor 18 = .ok (.ishl, 1) := by decide +kernel
theorem dX4_propsFor_19 : decode cX4_propsFor 19 = .ok (.iand, 1) := by decide +kernel
theorem dX4_propsFor_20 : decode cX4_propsFor 20 = .ok (.ifCond .eq 7, 3) := by decide +kernel
theorem dX4_propsFor_23 : decode cX4_propsFor 23 = .ok (.iconst 1, 1) := by decide +kernel
theorem dX4_propsFor_24 : decode cX4_propsFor 24 = .ok (.goto 4, 3) := by decide +kernel
theorem dX4_propsFor_27 : decode cX4_propsFor 27 = .ok (.iconst 0, 1) := by decide +kernel
theorem dX4_propsFor_28 : decode cX4_propsFor 28 = .ok (.istore 4, 2) := by decide +kernel
theorem dX4_propsFor_30 : decode cX4_propsFor 30 = .ok (.iload 4, 2) := by decide +kernel
theorem dX4_propsFor_32 : decode cX4_propsFor 32 = .ok (.ifCond .eq 21, 3) := by decide +kernel
theorem dX4_propsFor_35 : decode cX4_propsFor 35 = .ok (.aload_n 0, 1) := by decide +kernel
theorem dX4_propsFor_36 : decode cX4_propsFor 36 = .ok (.getfield 21, 3) := by decide +kernel
theorem dX4_propsFor_39 : decode cX4_propsFor 39 = .ok (.iload_n 3, 1) := by decide +kernel
theorem dX4_propsFor_40 : decode cX4_propsFor 40 = .ok (.iaload, 1) := by decide +kernel
theorem dX4_propsFor_41 : decode cX4_propsFor 41 = .ok (.iload_n 1, 1) := by decide +kernel
theorem dX4_propsFor_42 : decode cX4_propsFor 42 = .ok (.iand, 1) := by decide +kernel
theorem dX4_propsFor_43 : decode cX4_propsFor 43 = .ok (.invokestatic 77, 3) := by decide +kernel
theorem dX4_propsFor_46 : decode cX4_propsFor 46 = .ok (.iconst 2, 1) := by decide +kernel
theorem dX4_propsFor_47 : decode cX4_propsFor 47 = .ok (.if_icmp .ge 6, 3) := by decide +kernel
theorem dX4_propsFor_50 : decode cX4_propsFor 50 = .ok (.iinc 2 1, 3) := by decide +kernel
theorem dX4_propsFor_53 : decode cX4_propsFor 53 = .ok (.iinc 3 1, 3) := by decide +kernel
theorem dX4_propsFor_56 : decode cX4_propsFor 56 = .ok (.goto (-52), 3) := by decide +kernel
theorem dX4_propsFor_59 : decode cX4_propsFor 59 = .ok (.iload_n 2, 1) := by decide +kernel
theorem dX4_propsFor_60 : decode cX4_propsFor 60 = .ok (.ireturn, 1) := by decide +kernel
theorem dX4_goForward_0 : decode cX4_goForward 0 = .ok (.aload_n 0, 1) := by decide +kernel
theorem dX4_goForward_1 : decode cX4_goForward 1 = .ok (.getfield 24, 3) := by decide +kernel
theorem dX4_goForward_4 : decode cX4_goForward 4 = .ok (.iconst 0, 1) := by decide +kernel
theorem dX4_goForward_5 : decode cX4_goForward 5 = .ok (.iconst 1, 1) := by decide +kernel
theorem dX4_goForward_6 : decode cX4_goForward 6 = .ok (.iastore, 1) := by decide +kernel
theorem dX4_goForward_7 : decode cX4_goForward 7 = .ok (.iconst 1, 1) := by decide +kernel
theorem dX4_goForward_8 : decode cX4_goForward 8 = .ok (.istore_n 2, 1) := by decide +kernel
theorem dX4_goForward_9 : decode cX4_goForward 9 = .ok (.iload_n 2, 1) := by decide +kernel
theorem dX4_goForward_10 : decode cX4_goForward 10 = .ok (.aload_n 0, 1) := by decide +kernel
theorem dX4_goForward_11 : decode cX4_goForward 11 = .ok (.getfield 34, 3) := by decide +kernel
theorem dX4_goForward_14 : decode cX4_goForward 14 = .ok (.if_icmp .gt 106, 3) := by decide +kernel
theorem dX4_goForward_17 : decode cX4_goForward 17 = .ok (.aload_n 0, 1) := by decide +kernel
theorem dX4_goForward_18 : decode cX4_goForward 18 = .ok (.getfield 24, 3) := by decide +kernel
theorem dX4_goForward_21 : decode cX4_goForward 21 = .ok (.iload_n 2, 1) := by decide +kernel
theorem dX4_goForward_22 : decode cX4_goForward 22 = .ok (.iconst 0, 1) := by decide +kernel
theorem dX4_goForward_23 : decode cX4_goForward 23 = .ok (.iastore, 1) := by decide +kernel
theorem dX4_goForward_24 : decode cX4_goForward 24 = .ok (.aload_n 0, 1) := by decide +kernel
theorem dX4_goForward_25 : decode cX4_goForward 25 = .ok (.iload_n 2, 1) := by decide +kernel
theorem dX4_goForward_26 : decode cX4_goForward 26 = .ok (.invokevirtual 83, 3) := by decide +kernel
theorem dX4_goForward_29 : decode cX4_goForward 29 = .ok (.aload_n 0, 1) := by decide +kernel
theorem dX4_goForward_30 : decode cX4_goForward 30 = .ok (.getfield 9, 3) := by decide +kernel
theorem dX4_goForward_33 : decode cX4_goForward 33 = .ok (.if_icmp .gt 7, 3) := by decide +kernel
theorem dX4_goForward_36 : decode cX4_goForward 36 = .ok (.iconst 1, 1) := by decide +kernel
theorem dX4_goForward_37 : decode cX4_goForward 37 = .ok (.goto 4, 3) := by decide +kernel
theorem dX4_goForward_40 : decode cX4_goForward 40 = .ok (.iconst 0, 1) := by decide +kernel
theorem dX4_goForward_41 : decode cX4_goForward 41 = .ok (.istore_n 3, 1) := by decide +kernel
theorem dX4_goForward_42 : decode cX4_goForward 42 = .ok (.iconst 0, 1) := by decide +kernel
theorem dX4_goForward_43 : decode cX4_goForward 43 = .ok (.istore 4, 2) := by decide +kernel
theorem dX4_goForward_45 : decode cX4_goForward 45 = .ok (.iload 4, 2) := by decide +kernel
theorem dX4_goForward_47 : decode cX4_goForward 47 = .ok (.iload_n 1, 1) := by decide +kernel
theorem dX4_goForward_48 : decode cX4_goForward 48 = .ok (.if_icmp .ge 66, 3) := by decide +kernel
theorem dX4_goForward_51 : decode cX4_goForward 51 = .ok (.iload_n 3, 1) := by decide +kernel
theorem dX4_goForward_52 : decode cX4_goForward 52 = .ok (.ifCond .eq 62, 3) := by decide +kernel
theorem dX4_goForward_55 : decode cX4_goForward 55 = .ok (.iload_n 2, 1) := by decide +kernel
theorem dX4_goForward_56 : decode cX4_goForward 56 = .ok (.iconst 1, 1) := by decide +kernel
theorem dX4_goForward_57 : decode cX4_goForward 57 = .ok (.iload 4, 2) := by decide +kernel
theorem dX4_goForward_59 : decode cX4_goForward 59 = .ok (.ishl, 1) := by decide +kernel
theorem dX4_goForward_60 : decode cX4_goForward 60 = .ok (.iconst (-1), 1) := by decide +kernel
theorem dX4_goForward_61 : decode cX4_goForward 61 = .ok (.ixor, 1) := by decide +kernel
theorem dX4_goForward_62 : decode cX4_goForward 62 = .ok (.iand, 1) := by decide +kernel
theorem dX4_goForward_63 : decode cX4_goForward 63 = .ok (.istore 5, 2) := by decide +kernel
theorem dX4_goForward_65 : decode cX4_goForward 65 = .ok (.iload 5, 2) := by decide +kernel
theorem dX4_goForward_67 : decode cX4_goForward 67 = .ok (.iload_n 2, 1) := by decide +kernel
theorem dX4_goForward_68 : decode cX4_goForward 68 = .ok (.if_icmp .eq 40, 3) := by decide +kernel
theorem dX4_goForward_71 : decode cX4_goForward 71 = .ok (.aload_n 0, 1) := by decide +kernel
theorem dX4_goForward_72 : decode cX4_goForward 72 = .ok (.getfield 24, 3) := by decide +kernel
theorem dX4_goForward_75 : decode cX4_goForward 75 = .ok (.iload 5, 2) := by decide +kernel
theorem dX4_goForward_77 : decode cX4_goForward 77 = .ok (.iaload, 1) := by decide +kernel
theorem dX4_goForward_78 : decode cX4_goForward 78 = .ok (.ifCond .le 30, 3) := by decide +kernel
theorem dX4_goForward_81 : decode cX4_goForward 81 = .ok (.aload_n 0, 1) := by decide +kernel
theorem dX4_goForward_82 : decode cX4_goForward 82 = .ok (.iload 4, 2) := by decide +kernel
theorem dX4_goForward_84 : decode cX4_goForward 84 = .ok (.iload 5, 2) := by decide +kernel
theorem dX4_goForward_86 : decode cX4_goForward 86 = .ok (.invokevirtual 86, 3) := by decide +kernel
theorem dX4_goForward_89 : decode cX4_goForward 89 = .ok (.ifCond .eq 19, 3) := by decide +kernel
theorem dX4_goForward_92 : decode cX4_goForward 92 = .ok (.aload_n 0, 1) := by decide +kernel
theorem dX4_goForward_93 : decode cX4_goForward 93 = .ok (.getfield 24, 3) := by decide +kernel
theorem dX4_goForward_96 : decode cX4_goForward 96 = .ok (.iload_n 2, 1) := by decide +kernel
theorem dX4_goForward_97 : decode cX4_goForward 97 = .ok (.dup2, 1) := by decide +kernel
theorem dX4_goForward_98 : decode cX4_goForward 98 = .ok (.iaload, 1) := by decide +kernel
theorem dX4_goForward_99 : decode cX4_goForward 99 = .ok (.aload_n 0, 1) := by decide +kernel
theorem dX4_goForward_100 : decode cX4_goForward 100 = .ok (.getfield 24, 3) := by decide +kernel
theorem dX4_goForward_103 : decode cX4_goForward 103 = .ok (.iload 5, 2) := by decide +kernel
theorem dX4_goForward_105 : decode cX4_goForward 105 = .ok (.iaload, 1) := by decide +kernel
theorem dX4_goForward_106 : decode cX4_goForward 106 = .ok (.iadd, 1) := by decide +kernel
theorem dX4_goForward_107 : decode cX4_goForward 107 = .ok (.iastore, 1) := by decide +kernel
theorem dX4_goForward_108 : decode cX4_goForward 108 = .ok (.iinc 4 1, 3) := by decide +kernel
theorem dX4_goForward_111 : decode cX4_goForward 111 = .ok (.goto (-66), 3) := by decide +kernel
theorem dX4_goForward_114 : decode cX4_goForward 114 = .ok (.iinc 2 1, 3) := by decide +kernel
theorem dX4_goForward_117 : decode cX4_goForward 117 = .ok (.goto (-108), 3) := by decide +kernel
theorem dX4_goForward_120 : decode cX4_goForward 120 = .ok (.return_, 1) := by decide +kernel
theorem dX4_goBackward_0 : decode cX4_goBackward 0 = .ok (.iconst 0, 1) := by decide +kernel
theorem dX4_goBackward_1 : decode cX4_goBackward 1 = .ok (.istore_n 2, 1) := by decide +kernel
theorem dX4_goBackward_2 : decode cX4_goBackward 2 = .ok (.iload_n 2, 1) := by decide +kernel
theorem dX4_goBackward_3 : decode cX4_goBackward 3 = .ok (.aload_n 0, 1) := by decide +kernel
theorem dX4_goBackward_4 : decode cX4_goBackward 4 = .ok (.getfield 34, 3) := by decide +kernel
theorem dX4_goBackward_7 : decode cX4_goBackward 7 = .ok (.if_icmp .gt 28, 3) := by decide +kernel
theorem dX4_goBackward_10 : decode cX4_goBackward 10 = .ok (.aload_n 0, 1) := by decide +kernel
theorem dX4_goBackward_11 : decode cX4_goBackward 11 = .ok (.getfield 27, 3) := by decide +kernel
theorem dX4_goBackward_14 : decode cX4_goBackward 14 = .ok (.iload_n 2, 1) := by decide +kernel
theorem dX4_goBackward_15 : decode cX4_goBackward 15 = .ok (.iload_n 2, 1) := by decide +kernel
theorem dX4_goBackward_16 : decode cX4_goBackward 16 = .ok (.aload_n 0, 1) := by decide +kernel
theorem dX4_goBackward_17 : decode cX4_goBackward 17 = .ok (.getfield 34, 3) := by decide +kernel
theorem dX4_goBackward_20 : decode cX4_goBackward 20 = .ok (.if_icmp .ne 7, 3) := by decide +kernel
theorem dX4_goBackward_23 : decode cX4_goBackward 23 = .ok (.iconst 1, 1) := by decide +kernel
theorem dX4_goBackward_24 : decode cX4_goBackward 24 = .ok (.goto 4, 3) := by decide +kernel
theorem dX4_goBackward_27 : decode cX4_goBackward 27 = .ok (.iconst 0, 1) := by decide +kernel
theorem dX4_goBackward_28 : decode cX4_goBackward 28 = .ok (.bastore, 1) := by decide +kernel
theorem dX4_goBackward_29 : decode cX4_goBackward 29 = .ok (.iinc 2 1, 3) := by decide +kernel
theorem dX4_goBackward_32 : decode cX4_goBackward 32 = .ok (.goto (-30), 3) := by decide +kernel
theorem dX4_goBackward_35 : decode cX4_goBackward 35 = .ok (.aload_n 0, 1) := by decide +kernel
theorem dX4_goBackward_36 : decode cX4_goBackward 36 = .ok (.getfield 34, 3) := by decide +kernel
theorem dX4_goBackward_39 : decode cX4_goBackward 39 = .ok (.istore_n 2, 1) := by decide +kernel
theorem dX4_goBackward_40 : decode cX4_goBackward 40 = .ok (.iload_n 2, 1) := by decide +kernel
theorem dX4_goBackward_41 : decode cX4_goBackward 41 = .ok (.ifCond .le 90, 3) := by decide +kernel
theorem dX4_goBackward_44 : decode cX4_goBackward 44 = .ok (.aload_n 0, 1) := by decide +kernel
theorem dX4_goBackward_45 : decode cX4_goBackward 45 = .ok (.getfield 27, 3) := by decide +kernel
theorem dX4_goBackward_48 : decode cX4_goBackward 48 = .ok (.iload_n 2, 1) := by decide +kernel
theorem dX4_goBackward_49 : decode cX4_goBackward 49 = .ok (.baload, 1) := by decide +kernel
theorem dX4_goBackward_50 : decode cX4_goBackward 50 = .ok (.ifCond .eq 19, 3) := by decide +kernel
theorem dX4_goBackward_53 : decode cX4_goBackward 53 = .ok (.aload_n 0, 1) := by decide +kernel
theorem dX4_goBackward_54 : decode cX4_goBackward 54 = .ok (.iload_n 2, 1) := by decide +kernel
theorem dX4_goBackward_55 : decode cX4_goBackward 55 = .ok (.invokevirtual 83, 3) := by decide +kernel
theorem dX4_goBackward_58 : decode cX4_goBackward 58 = .ok (.aload_n 0, 1) := by decide +kernel
theorem dX4_goBackward_59 : decode cX4_goBackward 59 = .ok (.getfield 9, 3) := by decide +kernel
theorem dX4_goBackward_62 : decode cX4_goBackward 62 = .ok (.if_icmp .gt 7, 3) := by decide +kernel
theorem dX4_goBackward_65 : decode cX4_goBackward 65 = .ok (.iconst 1, 1) := by decide +kernel
theorem dX4_goBackward_66 : decode cX4_goBackward 66 = .ok (.goto 4, 3) := by decide +kernel
theorem dX4_goBackward_69 : decode cX4_goBackward 69 = .ok (.iconst 0, 1) := by decide +kernel
theorem dX4_goBackward_70 : decode cX4_goBackward 70 = .ok (.istore_n 3, 1) := by decide +kernel
theorem dX4_goBackward_71 : decode cX4_goBackward 71 = .ok (.iconst 0, 1) := by decide +kernel
theorem dX4_goBackward_72 : decode cX4_goBackward 72 = .ok (.istore 4, 2) := by decide +kernel
theorem dX4_goBackward_74 : decode cX4_goBackward 74 = .ok (.iload 4, 2) := by decide +kernel
theorem dX4_goBackward_76 : decode cX4_goBackward 76 = .ok (.iload_n 1, 1) := by decide +kernel
theorem dX4_goBackward_77 : decode cX4_goBackward 77 = .ok (.if_icmp .ge 48, 3) := by decide +kernel
theorem dX4_goBackward_80 : decode cX4_goBackward 80 = .ok (.iload_n 3, 1) := by decide +kernel
theorem dX4_goBackward_81 : decode cX4_goBackward 81 = .ok (.ifCond .eq 44, 3) := by decide +kernel
theorem dX4_goBackward_84 : decode cX4_goBackward 84 = .ok (.iload_n 2, 1) := by decide +kernel
theorem dX4_goBackward_85 : decode cX4_goBackward 85 = .ok (.iconst 1, 1) := by decide +kernel
theorem dX4_goBackward_86 : decode cX4_goBackward 86 = .ok (.iload 4, 2) := by decide +kernel
theorem dX4_goBackward_88 : decode cX4_goBackward 88 = .ok (.ishl, 1) := by decide +kernel
theorem dX4_goBackward_89 : decode cX4_goBackward 89 = .ok (.iconst (-1), 1) := by decide +kernel
theorem dX4_goBackward_90 : decode cX4_goBackward 90 = .ok (.ixor, 1) := by decide +kernel
theorem dX4_goBackward_91 : decode cX4_goBackward 91 = .ok (.iand, 1) := by decide +kernel
theorem dX4_goBackward_92 : decode cX4_goBackward 92 = .ok (.istore 5, 2) := by decide +kernel
theorem dX4_goBackward_94 : decode cX4_goBackward 94 = .ok (.iload 5, 2) := by decide +kernel
theorem dX4_goBackward_96 : decode cX4_goBackward 96 = .ok (.iload_n 2, 1) := by decide +kernel
theorem dX4_goBackward_97 : decode cX4_goBackward 97 = .ok (.if_icmp .eq 22, 3) := by decide +kernel
theorem dX4_goBackward_100 : decode cX4_goBackward 100 = .ok (.aload_n 0, 1) := by decide +kernel
theorem dX4_goBackward_101 : decode cX4_goBackward 101 = .ok (.iload 4, 2) := by decide +kernel
theorem dX4_goBackward_103 : decode cX4_goBackward 103 = .ok (.iload 5, 2) := by decide +kernel
theorem dX4_goBackward_105 : decode cX4_goBackward 105 = .ok (.invokevirtual 86, 3) := by decide +kernel
theorem dX4_goBackward_108 : decode cX4_goBackward 108 = .ok (.ifCond .eq 11, 3) := by decide +kernel
theorem dX4_goBackward_111 : decode cX4_goBackward 111 = .ok (.aload_n 0, 1) := by decide +kernel
theorem dX4_goBackward_112 : decode cX4_goBackward 112 = .ok (.getfield 27, 3) := by decide +kernel
theorem dX4_goBackward_115 : decode cX4_goBackward 115 = .ok (.iload 5, 2) := by decide +kernel
theorem dX4_goBackward_117 : decode cX4_goBackward 117 = .ok (.iconst 1, 1) := by decide +kernel
theorem dX4_goBackward_118 : decode cX4_goBackward 118 = .ok (.bastore, 1) := by decide +kernel
theorem dX4_goBackward_119 : decode cX4_goBackward 119 = .ok (.iinc 4 1, 3) := by decide +kernel
theorem dX4_goBackward_122 : decode cX4_goBackward 122 = .ok (.goto (-48), 3) := by decide +kernel
theorem dX4_goBackward_125 : decode cX4_goBackward 125 = .ok (.iinc 2 (-1), 3) := by decide +kernel
theorem dX4_goBackward_128 : decode cX4_goBackward 128 = .ok (.goto (-88), 3) := by decide +kernel
theorem dX4_goBackward_131 : decode cX4_goBackward 131 = .ok (.return_, 1) := by decide +kernel
theorem dX4_findOrder_0 : decode cX4_findOrder 0 = .ok (.iconst 0, 1) := by decide +kernel
theorem dX4_findOrder_1 : decode cX4_findOrder 1 = .ok (.istore_n 2, 1) := by decide +kernel
theorem dX4_findOrder_2 : decode cX4_findOrder 2 = .ok (.iconst 0, 1) := by decide +kernel
theorem dX4_findOrder_3 : decode cX4_findOrder 3 = .ok (.istore_n 3, 1) := by decide +kernel
theorem dX4_findOrder_4 : decode cX4_findOrder 4 = .ok (.iload_n 3, 1) := by decide +kernel
theorem dX4_findOrder_5 : decode cX4_findOrder 5 = .ok (.iload_n 1, 1) := by decide +kernel
theorem dX4_findOrder_6 : decode cX4_findOrder 6 = .ok (.if_icmp .ge 38, 3) := by decide +kernel
theorem dX4_findOrder_9 : decode cX4_findOrder 9 = .ok (.aload_n 0, 1) := by decide +kernel
theorem dX4_findOrder_10 : decode cX4_findOrder 10 = .ok (.iload_n 2, 1) := by decide +kernel
theorem dX4_findOrder_11 : decode cX4_findOrder 11 = .ok (.iload_n 1, 1) := by decide +kernel
theorem dX4_findOrder_12 : decode cX4_findOrder 12 = .ok (.invokevirtual 90, 3) := by decide +kernel
theorem dX4_findOrder_15 : decode cX4_findOrder 15 = .ok (.istore 4, 2) := by decide +kernel
theorem dX4_findOrder_17 : decode cX4_findOrder 17 = .ok (.iload 4, 2) := by decide +kernel
theorem dX4_findOrder_19 : decode cX4_findOrder 19 = .ok (.ifCond .ge 4, 3) := by decide +kernel
theorem dX4_findOrder_22 : decode cX4_findOrder 22 = .ok (.return_, 1) := by decide +kernel
theorem dX4_findOrder_23 : decode cX4_findOrder 23 = .ok (.aload_n 0, 1) := by decide +kernel
theorem dX4_findOrder_24 : decode cX4_findOrder 24 = .ok (.getfield 31, 3) := by decide +kernel
theorem dX4_findOrder_27 : decode cX4_findOrder 27 = .ok (.iload_n 3, 1) := by decide +kernel
theorem dX4_findOrder_28 : decode cX4_findOrder 28 = .ok (.iload 4, 2) := by decide +kernel
theorem dX4_findOrder_30 : decode cX4_findOrder 30 = .ok (.iastore, 1) := by decide +kernel
theorem dX4_findOrder_31 : decode cX4_findOrder 31 = .ok (.iload_n 2, 1) := by decide +kernel
theorem dX4_findOrder_32 : decode cX4_findOrder 32 = .ok (.iconst 1, 1) := by decide +kernel
theorem dX4_findOrder_33 : decode cX4_findOrder 33 = .ok (.iload 4, 2) := by decide +kernel
theorem dX4_findOrder_35 : decode cX4_findOrder 35 = .ok (.ishl, 1) := by decide +kernel
theorem dX4_findOrder_36 : decode cX4_findOrder 36 = .ok (.ior, 1) := by decide +kernel
theorem dX4_findOrder_37 : decode cX4_findOrder 37 = .ok (.istore_n 2, 1) := by decide +kernel
theorem dX4_findOrder_38 : decode cX4_findOrder 38 = .ok (.iinc 3 1, 3) := by decide +kernel
theorem dX4_findOrder_41 : decode cX4_findOrder 41 = .ok (.goto (-37), 3) := by decide +kernel
theorem dX4_findOrder_44 : decode cX4_findOrder 44 = .ok (.return_, 1) := by decide +kernel
theorem dX4_firstThatLeads_0 : decode cX4_firstThatLeads 0 = .ok (.iconst 0, 1) := by decide +kernel
theorem dX4_firstThatLeads_1 : decode cX4_firstThatLeads 1 = .ok (.istore_n 3, 1) := by decide +kernel
theorem dX4_firstThatLeads_2 : decode cX4_firstThatLeads 2 = .ok (.iload_n 3, 1) := by decide +kernel
theorem dX4_firstThatLeads_3 : decode cX4_firstThatLeads 3 = .ok (.iload_n 2, 1) := by decide +kernel
theorem dX4_firstThatLeads_4 : decode cX4_firstThatLeads 4 = .ok (.if_icmp .ge 68, 3) := by decide +kernel
theorem dX4_firstThatLeads_7 : decode cX4_firstThatLeads 7 = .ok (.iload_n 1, 1) := by decide +kernel
theorem dX4_firstThatLeads_8 : decode cX4_firstThatLeads 8 = .ok (.iconst 1, 1) := by decide +kernel
theorem dX4_firstThatLeads_9 : decode cX4_firstThatLeads 9 = .ok (.iload_n 3, 1) := by decide +kernel
theorem dX4_firstThatLeads_10 : decode cX4_firstThatLeads 10 = .ok (.ishl, 1) := by decide +kernel
theorem dX4_firstThatLeads_11 : decode cX4_firstThatLeads 11 = .ok (.ior, 1) := by decide +kernel
theorem dX4_firstThatLeads_12 : decode cX4_firstThatLeads 12 = .ok (.istore 4, 2) := by decide +kernel
theorem dX4_firstThatLeads_14 : decode cX4_firstThatLeads 14 = .ok (.iload 4, 2) := by decide +kernel
theorem dX4_firstThatLeads_16 : decode cX4_firstThatLeads 16 = .ok (.iload_n 1, 1) := by decide +kernel
theorem dX4_firstThatLeads_17 : decode cX4_firstThatLeads 17 = .ok (.if_icmp .eq 30, 3) := by decide +kernel
theorem dX4_firstThatLeads_20 : decode cX4_firstThatLeads 20 = .ok (.aload_n 0, 1) := by decide +kernel
theorem dX4_firstThatLeads_21 : decode cX4_firstThatLeads 21 = .ok (.getfield 27, 3) := by decide +kernel
theorem dX4_firstThatLeads_24 : decode cX4_firstThatLeads 24 = .ok (.iload 4, 2) := by decide +kernel
theorem dX4_firstThatLeads_26 : decode cX4_firstThatLeads 26 = .ok (.baload, 1) := by decide +kernel
theorem dX4_firstThatLeads_27 : decode cX4_firstThatLeads 27 = .ok (.ifCond .eq 20, 3) := by decide +kernel
theorem dX4_firstThatLeads_30 : decode cX4_firstThatLeads 30 = .ok (.aload_n 0, 1) := by decide +kernel
theorem dX4_firstThatLeads_31 : decode cX4_firstThatLeads 31 = .ok (.iload 4, 2) := by decide +kernel
theorem dX4_firstThatLeads_33 : decode cX4_firstThatLeads 33 = .ok (.invokevirtual 83, 3) := by decide +kernel
theorem dX4_firstThatLeads_36 : decode cX4_firstThatLeads 36 = .ok (.aload_n 0, 1) := by decide +kernel
theorem dX4_firstThatLeads_37 : decode cX4_firstThatLeads 37 = .ok (.getfield 9, 3) := by decide +kernel
theorem dX4_firstThatLeads_40 : decode cX4_firstThatLeads 40 = .ok (.if_icmp .gt 7, 3) := by decide +kernel
theorem dX4_firstThatLeads_43 : decode cX4_firstThatLeads 43 = .ok (.iconst 1, 1) := by decide +kernel
theorem dX4_firstThatLeads_44 : decode cX4_firstThatLeads 44 = .ok (.goto 4, 3) := by decide +kernel
theorem dX4_firstThatLeads_47 : decode cX4_firstThatLeads 47 = .ok (.iconst 0, 1) := by decide +kernel
theorem dX4_firstThatLeads_48 : decode cX4_firstThatLeads 48 = .ok (.istore 5, 2) := by decide +kernel
theorem dX4_firstThatLeads_50 : decode cX4_firstThatLeads 50 = .ok (.iload 5, 2) := by decide +kernel
theorem dX4_firstThatLeads_52 : decode cX4_firstThatLeads 52 = .ok (.ifCond .eq 14, 3) := by decide +kernel
theorem dX4_firstThatLeads_55 : decode cX4_firstThatLeads 55 = .ok (.aload_n 0, 1) := by decide +kernel
theorem dX4_firstThatLeads_56 : decode cX4_firstThatLeads 56 = .ok (.iload_n 3, 1) := by decide +kernel
theorem dX4_firstThatLeads_57 : decode cX4_firstThatLeads 57 = .ok (.iload_n 1, 1) := by decide +kernel
theorem dX4_firstThatLeads_58 : decode cX4_firstThatLeads 58 = .ok (.invokevirtual 86, 3) := by decide +kernel
theorem dX4_firstThatLeads_61 : decode cX4_firstThatLeads 61 = .ok (.ifCond .eq 5, 3) := by decide +kernel
theorem dX4_firstThatLeads_64 : decode cX4_firstThatLeads 64 = .ok (.iload_n 3, 1) := by decide +kernel
theorem dX4_firstThatLeads_65 : decode cX4_firstThatLeads 65 = .ok (.ireturn, 1) := by decide +kernel
theorem dX4_firstThatLeads_66 : decode cX4_firstThatLeads 66 = .ok (.iinc 3 1, 3) := by decide +kernel
theorem dX4_firstThatLeads_69 : decode cX4_firstThatLeads 69 = .ok (.goto (-67), 3) := by decide +kernel
theorem dX4_firstThatLeads_72 : decode cX4_firstThatLeads 72 = .ok (.iconst (-1), 1) := by decide +kernel
theorem dX4_firstThatLeads_73 : decode cX4_firstThatLeads 73 = .ok (.ireturn, 1) := by decide +kernel
theorem dX4_lowestStuck_0 : decode cX4_lowestStuck 0 = .ok (.iconst 0, 1) := by decide +kernel
theorem dX4_lowestStuck_1 : decode cX4_lowestStuck 1 = .ok (.istore_n 1, 1) := by decide +kernel
theorem dX4_lowestStuck_2 : decode cX4_lowestStuck 2 = .ok (.iload_n 1, 1) := by decide +kernel
theorem dX4_lowestStuck_3 : decode cX4_lowestStuck 3 = .ok (.bipush 9, 2) := by decide +kernel
theorem dX4_lowestStuck_5 : decode cX4_lowestStuck 5 = .ok (.if_icmp .ge 38, 3) := by decide +kernel
theorem dX4_lowestStuck_8 : decode cX4_lowestStuck 8 = .ok (.iconst 1, 1) := by decide +kernel
theorem dX4_lowestStuck_9 : decode cX4_lowestStuck 9 = .ok (.iload_n 1, 1) := by decide +kernel
theorem dX4_lowestStuck_10 : decode cX4_lowestStuck 10 = .ok (.ishl, 1) := by decide +kernel
theorem dX4_lowestStuck_11 : decode cX4_lowestStuck 11 = .ok (.istore_n 2, 1) := by decide +kernel
theorem dX4_lowestStuck_12 : decode cX4_lowestStuck 12 = .ok (.aload_n 0, 1) := by decide +kernel
theorem dX4_lowestStuck_13 : decode cX4_lowestStuck 13 = .ok (.getfield 34, 3) := by decide +kernel
theorem dX4_lowestStuck_16 : decode cX4_lowestStuck 16 = .ok (.iload_n 2, 1) := by decide +kernel
theorem dX4_lowestStuck_17 : decode cX4_lowestStuck 17 = .ok (.iand, 1) := by decide +kernel
theorem dX4_lowestStuck_18 : decode cX4_lowestStuck 18 = .ok (.ifCond .eq 19, 3) := by decide +kernel
theorem dX4_lowestStuck_21 : decode cX4_lowestStuck 21 = .ok (.aload_n 0, 1) := by decide +kernel
theorem dX4_lowestStuck_22 : decode cX4_lowestStuck 22 = .ok (.iload_n 1, 1) := by decide +kernel
theorem dX4_lowestStuck_23 : decode cX4_lowestStuck 23 = .ok (.aload_n 0, 1) := by decide +kernel
theorem dX4_lowestStuck_24 : decode cX4_lowestStuck 24 = .ok (.getfield 34, 3) := by decide +kernel
theorem dX4_lowestStuck_27 : decode cX4_lowestStuck 27 = .ok (.iload_n 2, 1) := by decide +kernel
theorem dX4_lowestStuck_28 : decode cX4_lowestStuck 28 = .ok (.ixor, 1) := by decide +kernel
theorem dX4_lowestStuck_29 : decode cX4_lowestStuck 29 = .ok (.invokevirtual 86, 3) := by decide +kernel
theorem dX4_lowestStuck_32 : decode cX4_lowestStuck 32 = .ok (.ifCond .ne 5, 3) := by decide +kernel
theorem dX4_lowestStuck_35 : decode cX4_lowestStuck 35 = .ok (.iload_n 1, 1) := by decide +kernel
theorem dX4_lowestStuck_36 : decode cX4_lowestStuck 36 = .ok (.ireturn, 1) := by decide +kernel
theorem dX4_lowestStuck_37 : decode cX4_lowestStuck 37 = .ok (.iinc 1 1, 3) := by decide +kernel
theorem dX4_lowestStuck_40 : decode cX4_lowestStuck 40 = .ok (.goto (-38), 3) := by decide +kernel
theorem dX4_lowestStuck_43 : decode cX4_lowestStuck 43 = .ok (.iconst (-1), 1) := by decide +kernel
theorem dX4_lowestStuck_44 : decode cX4_lowestStuck 44 = .ok (.ireturn, 1) := by decide +kernel
theorem dX5_init_0 : decode cX5_init 0 = .ok (.aload_n 0, 1) := by decide +kernel
theorem dX5_init_1 : decode cX5_init 1 = .ok (.invokespecial 1, 3) := by decide +kernel
theorem dX5_init_4 : decode cX5_init 4 = .ok (.aload_n 0, 1) := by decide +kernel
theorem dX5_init_5 : decode cX5_init 5 = .ok (.bipush 8, 2) := by decide +kernel
theorem dX5_init_7 : decode cX5_init 7 = .ok (.newarray .long, 2) := by decide +kernel
theorem dX5_init_9 : decode cX5_init 9 = .ok (.putfield 9, 3) := by decide +kernel
theorem dX5_init_12 : decode cX5_init 12 = .ok (.return_, 1) := by decide +kernel
theorem dX5_set_0 : decode cX5_set 0 = .ok (.iconst 2, 1) := by decide +kernel
theorem dX5_set_1 : decode cX5_set 1 = .ok (.istore_n 3, 1) := by decide +kernel
theorem dX5_set_2 : decode cX5_set 2 = .ok (.iload_n 3, 1) := by decide +kernel
theorem dX5_set_3 : decode cX5_set 3 = .ok (.bipush 8, 2) := by decide +kernel
theorem dX5_set_5 : decode cX5_set 5 = .ok (.if_icmp .ge 16, 3) := by decide +kernel
theorem dX5_set_8 : decode cX5_set 8 = .ok (.aload_n 0, 1) := by decide +kernel
theorem dX5_set_9 : decode cX5_set 9 = .ok (.getfield 9, 3) := by decide +kernel
theorem dX5_set_12 : decode cX5_set 12 = .ok (.iload_n 3, 1) := by decide +kernel
theorem dX5_set_13 : decode cX5_set 13 = .ok (.lconst 0, 1) := by decide +kernel
theorem dX5_set_14 : decode cX5_set 14 = .ok (.lastore, 1) := by decide +kernel
theorem dX5_set_15 : decode cX5_set 15 = .ok (.iinc 3 1, 3) := by decide +kernel
theorem dX5_set_18 : decode cX5_set 18 = .ok (.goto (-16), 3) := by decide +kernel
theorem dX5_set_21 : decode cX5_set 21 = .ok (.aload_n 0, 1) := by decide +kernel
theorem dX5_set_22 : decode cX5_set 22 = .ok (.getfield 9, 3) := by decide +kernel
theorem dX5_set_25 : decode cX5_set 25 = .ok (.iconst 0, 1) := by decide +kernel
theorem dX5_set_26 : decode cX5_set 26 = .ok (.lload_n 1, 1) := by decide +kernel
theorem dX5_set_27 : decode cX5_set 27 = .ok (.ldc2_w 13, 3) := by decide +kernel
theorem dX5_set_30 : decode cX5_set 30 = .ok (.land, 1) := by decide +kernel
theorem dX5_set_31 : decode cX5_set 31 = .ok (.lastore, 1) := by decide +kernel
theorem dX5_set_32 : decode cX5_set 32 = .ok (.aload_n 0, 1) := by decide +kernel
theorem dX5_set_33 : decode cX5_set 33 = .ok (.getfield 9, 3) := by decide +kernel
theorem dX5_set_36 : decode cX5_set 36 = .ok (.iconst 1, 1) := by decide +kernel
theorem dX5_set_37 : decode cX5_set 37 = .ok (.lload_n 1, 1) := by decide +kernel
theorem dX5_set_38 : decode cX5_set 38 = .ok (.bipush 32, 2) := by decide +kernel
theorem dX5_set_40 : decode cX5_set 40 = .ok (.lushr, 1) := by decide +kernel
theorem dX5_set_41 : decode cX5_set 41 = .ok (.lastore, 1) := by decide +kernel
theorem dX5_set_42 : decode cX5_set 42 = .ok (.return_, 1) := by decide +kernel
theorem dX5_add_0 : decode cX5_add 0 = .ok (.lload_n 1, 1) := by decide +kernel
theorem dX5_add_1 : decode cX5_add 1 = .ok (.lstore_n 3, 1) := by decide +kernel
theorem dX5_add_2 : decode cX5_add 2 = .ok (.iconst 0, 1) := by decide +kernel
theorem dX5_add_3 : decode cX5_add 3 = .ok (.istore 5, 2) := by decide +kernel
theorem dX5_add_5 : decode cX5_add 5 = .ok (.iload 5, 2) := by decide +kernel
theorem dX5_add_7 : decode cX5_add 7 = .ok (.bipush 8, 2) := by decide +kernel
theorem dX5_add_9 : decode cX5_add 9 = .ok (.if_icmp .ge 48, 3) := by decide +kernel
theorem dX5_add_12 : decode cX5_add 12 = .ok (.aload_n 0, 1) := by decide +kernel
theorem dX5_add_13 : decode cX5_add 13 = .ok (.getfield 9, 3) := by decide +kernel
theorem dX5_add_16 : decode cX5_add 16 = .ok (.iload 5, 2) := by decide +kernel
theorem dX5_add_18 : decode cX5_add 18 = .ok (.laload, 1) := by decide +kernel
theorem dX5_add_19 : decode cX5_add 19 = .ok (.lload_n 3, 1) := by decide +kernel
theorem dX5_add_20 : decode cX5_add 20 = .ok (.ldc2_w 13, 3) := by decide +kernel
theorem dX5_add_23 : decode cX5_add 23 = .ok (.land, 1) := by decide +kernel
theorem dX5_add_24 : decode cX5_add 24 = .ok (.ladd, 1) := by decide +kernel
theorem dX5_add_25 : decode cX5_add 25 = .ok (.lstore 6, 2) := by decide +kernel
theorem dX5_add_27 : decode cX5_add 27 = .ok (.aload_n 0, 1) := by decide +kernel
theorem dX5_add_28 : decode cX5_add 28 = .ok (.getfield 9, 3) := by decide +kernel
theorem dX5_add_31 : decode cX5_add 31 = .ok (.iload 5, 2) := by decide +kernel
theorem dX5_add_33 : decode cX5_add 33 = .ok (.lload 6, 2) := by decide +kernel
theorem dX5_add_35 : decode cX5_add 35 = .ok (.ldc2_w 13, 3) := by decide +kernel
theorem dX5_add_38 : decode cX5_add 38 = .ok (.land, 1) := by decide +kernel
theorem dX5_add_39 : decode cX5_add 39 = .ok (.lastore, 1) := by decide +kernel
theorem dX5_add_40 : decode cX5_add 40 = .ok (.lload_n 3, 1) := by decide +kernel
theorem dX5_add_41 : decode cX5_add 41 = .ok (.bipush 32, 2) := by decide +kernel
theorem dX5_add_43 : decode cX5_add 43 = .ok (.lushr, 1) := by decide +kernel
theorem dX5_add_44 : decode cX5_add 44 = .ok (.lload 6, 2) := by decide +kernel
theorem dX5_add_46 : decode cX5_add 46 = .ok (.bipush 32, 2) := by decide +kernel
theorem dX5_add_48 : decode cX5_add 48 = .ok (.lushr, 1) := by decide +kernel
theorem dX5_add_49 : decode cX5_add 49 = .ok (.ladd, 1) := by decide +kernel
theorem dX5_add_50 : decode cX5_add 50 = .ok (.lstore_n 3, 1) := by decide +kernel
theorem dX5_add_51 : decode cX5_add 51 = .ok (.iinc 5 1, 3) := by decide +kernel
theorem dX5_add_54 : decode cX5_add 54 = .ok (.goto (-49), 3) := by decide +kernel
theorem dX5_add_57 : decode cX5_add 57 = .ok (.return_, 1) := by decide +kernel
theorem dX5_setProduct_0 : decode cX5_setProduct 0 = .ok (.iconst 0, 1) := by decide +kernel
theorem dX5_setProduct_1 : decode cX5_setProduct 1 = .ok (.istore_n 3, 1) := by decide +kernel
theorem dX5_setProduct_2 : decode cX5_setProduct 2 = .ok (.iload_n 3, 1) := by decide +kernel
theorem dX5_setProduct_3 : decode cX5_setProduct 3 = .ok (.bipush 8, 2) := by decide +kernel
theorem dX5_setProduct_5 : decode cX5_setProduct 5 = .ok (.if_icmp .ge 16, 3) := by decide +kernel
theorem dX5_setProduct_8 : decode cX5_setProduct 8 = .ok (.aload_n 0, 1) := by decide +kernel
theorem dX5_setProduct_9 : decode cX5_setProduct 9 = .ok (.getfield 9, 3) := by decide +kernel
theorem dX5_setProduct_12 : decode cX5_setProduct 12 = .ok (.iload_n 3, 1) := by decide +kernel
theorem dX5_setProduct_13 : decode cX5_setProduct 13 = .ok (.lconst 0, 1) := by decide +kernel
theorem dX5_setProduct_14 : decode cX5_setProduct 14 = .ok (.lastore, 1) := by decide +kernel
theorem dX5_setProduct_15 : decode cX5_setProduct 15 = .ok (.iinc 3 1, 3) := by decide +kernel
theorem dX5_setProduct_18 : decode cX5_setProduct 18 = .ok (.goto (-16), 3) := by decide +kernel
theorem dX5_setProduct_21 : decode cX5_setProduct 21 = .ok (.iconst 0, 1) := by decide +kernel
theorem dX5_setProduct_22 : decode cX5_setProduct 22 = .ok (.istore_n 3, 1) := by decide +kernel
theorem dX5_setProduct_23 : decode cX5_setProduct 23 = .ok (.iload_n 3, 1) := by decide +kernel
theorem dX5_setProduct_24 : decode cX5_setProduct 24 = .ok (.bipush 8, 2) := by decide +kernel
theorem dX5_setProduct_26 : decode cX5_setProduct 26 = .ok (.if_icmp .ge 77, 3) := by decide +kernel
theorem dX5_setProduct_29 : decode cX5_setProduct 29 = .ok (.lconst 0, 1) := by decide +kernel
theorem dX5_setProduct_30 : decode cX5_setProduct 30 = .ok (.lstore 4, 2) := by decide +kernel
theorem dX5_setProduct_32 : decode cX5_setProduct 32 = .ok (.iload_n 3, 1) := by decide +kernel
theorem dX5_setProduct_33 : decode cX5_setProduct 33 = .ok (.istore 6, 2) := by decide +kernel
theorem dX5_setProduct_35 : decode cX5_setProduct 35 = .ok (.iload 6, 2) := by decide +kernel
theorem dX5_setProduct_37 : decode cX5_setProduct 37 = .ok (.bipush 8, 2) := by decide +kernel
theorem dX5_setProduct_39 : decode cX5_setProduct 39 = .ok (.if_icmp .ge 58, 3) := by decide +kernel
theorem dX5_setProduct_42 : decode cX5_setProduct 42 = .ok (.lload 4, 2) := by decide +kernel
theorem dX5_setProduct_44 : decode cX5_setProduct 44 = .ok (.aload_n 1, 1) := by decide +kernel
theorem dX5_setProduct_45 : decode cX5_setProduct 45 = .ok (.getfield 9, 3) := by decide +kernel
theorem dX5_setProduct_48 : decode cX5_setProduct 48 = .ok (.iload_n 3, 1) := by decide +kernel
theorem dX5_setProduct_49 : decode cX5_setProduct 49 = .ok (.laload, 1) := by decide +kernel
theorem dX5_setProduct_50 : decode cX5_setProduct 50 = .ok (.aload_n 2, 1) := by decide +kernel
theorem dX5_setProduct_51 : decode cX5_setProduct 51 = .ok (.getfield 9, 3) := by decide +kernel
theorem dX5_setProduct_54 : decode cX5_setProduct 54 = .ok (.iload 6, 2) := by decide +kernel
theorem dX5_setProduct_56 : decode cX5_setProduct 56 = .ok (.iload_n 3, 1) := by decide +kernel
theorem dX5_setProduct_57 : decode cX5_setProduct 57 = .ok (.isub, 1) := by decide +kernel
theorem dX5_setProduct_58 : decode cX5_setProduct 58 = .ok (.laload, 1) := by decide +kernel
theorem dX5_setProduct_59 : decode cX5_setProduct 59 = .ok (.lmul, 1) := by decide +kernel
theorem dX5_setProduct_60 : decode cX5_setProduct 60 = .ok (.aload_n 0, 1) := by decide +kernel
theorem dX5_setProduct_61 : decode cX5_setProduct 61 = .ok (.getfield 9, 3) := by decide +kernel
theorem dX5_setProduct_64 : decode cX5_setProduct 64 = .ok (.iload 6, 2) := by decide +kernel
theorem dX5_setProduct_66 : decode cX5_setProduct 66 = .ok (.laload, 1) := by decide +kernel
theorem dX5_setProduct_67 : decode cX5_setProduct 67 = .ok (.ladd, 1) := by decide +kernel
theorem dX5_setProduct_68 : decode cX5_setProduct 68 = .ok (.ladd, 1) := by decide +kernel
theorem dX5_setProduct_69 : decode cX5_setProduct 69 = .ok (.lstore 4, 2) := by decide +kernel
theorem dX5_setProduct_71 : decode cX5_setProduct 71 = .ok (.aload_n 0, 1) := by decide +kernel
theorem dX5_setProduct_72 : decode cX5_setProduct 72 = .ok (.getfield 9, 3) := by decide +kernel
theorem dX5_setProduct_75 : decode cX5_setProduct 75 = .ok (.iload 6, 2) := by decide +kernel
theorem dX5_setProduct_77 : decode cX5_setProduct 77 = .ok (.lload 4, 2) := by decide +kernel
theorem dX5_setProduct_79 : decode cX5_setProduct 79 = .ok (.ldc2_w 13, 3) := by decide +kernel
theorem dX5_setProduct_82 : decode cX5_setProduct 82 = .ok (.land, 1) := by decide +kernel
theorem dX5_setProduct_83 : decode cX5_setProduct 83 = .ok (.lastore, 1) := by decide +kernel
theorem dX5_setProduct_84 : decode cX5_setProduct 84 = .ok (.lload 4, 2) := by decide +kernel
theorem dX5_setProduct_86 : decode cX5_setProduct 86 = .ok (.bipush 32, 2) := by decide +kernel
theorem dX5_setProduct_88 : decode cX5_setProduct 88 = .ok (.lushr, 1) := by decide +kernel
theorem dX5_setProduct_89 : decode cX5_setProduct 89 = .ok (.lstore 4, 2) := by decide +kernel
theorem dX5_setProduct_91 : decode cX5_setProduct 91 = .ok (.iinc 6 1, 3) := by decide +kernel
theorem dX5_setProduct_94 : decode cX5_setProduct 94 = .ok (.goto (-59), 3) := by decide +kernel
theorem dX5_setProduct_97 : decode cX5_setProduct 97 = .ok (.iinc 3 1, 3) := by decide +kernel
theorem dX5_setProduct_100 : decode cX5_setProduct 100 = .ok (.goto (-77), 3) := by decide +kernel
theorem dX5_setProduct_103 : decode cX5_setProduct 103 = .ok (.return_, 1) := by decide +kernel
theorem dX5_isAtMost_0 : decode cX5_isAtMost 0 = .ok (.bipush 7, 2) := by decide +kernel
theorem dX5_isAtMost_2 : decode cX5_isAtMost 2 = .ok (.istore_n 2, 1) := by decide +kernel
theorem dX5_isAtMost_3 : decode cX5_isAtMost 3 = .ok (.iload_n 2, 1) := by decide +kernel
theorem dX5_isAtMost_4 : decode cX5_isAtMost 4 = .ok (.ifCond .lt 47, 3) := by decide +kernel
theorem dX5_isAtMost_7 : decode cX5_isAtMost 7 = .ok (.aload_n 0, 1) := by decide +kernel
theorem dX5_isAtMost_8 : decode cX5_isAtMost 8 = .ok (.getfield 9, 3) := by decide +kernel
theorem dX5_isAtMost_11 : decode cX5_isAtMost 11 = .ok (.iload_n 2, 1) := by decide +kernel
theorem dX5_isAtMost_12 : decode cX5_isAtMost 12 = .ok (.laload, 1) := by decide +kernel
theorem dX5_isAtMost_13 : decode cX5_isAtMost 13 = .ok (.aload_n 1, 1) := by decide +kernel
theorem dX5_isAtMost_14 : decode cX5_isAtMost 14 = .ok (.getfield 9, 3) := by decide +kernel
theorem dX5_isAtMost_17 : decode cX5_isAtMost 17 = .ok (.iload_n 2, 1) := by decide +kernel
theorem dX5_isAtMost_18 : decode cX5_isAtMost 18 = .ok (.laload, 1) := by decide +kernel
theorem dX5_isAtMost_19 : decode cX5_isAtMost 19 = .ok (.lcmp, 1) := by decide +kernel
theorem dX5_isAtMost_20 : decode cX5_isAtMost 20 = .ok (.ifCond .eq 25, 3) := by decide +kernel
theorem dX5_isAtMost_23 : decode cX5_isAtMost 23 = .ok (.aload_n 0, 1) := by decide +kernel
theorem dX5_isAtMost_24 : decode cX5_isAtMost 24 = .ok (.getfield 9, 3) := by decide +kernel
theorem dX5_isAtMost_27 : decode cX5_isAtMost 27 = .ok (.iload_n 2, 1) := by decide +kernel
theorem dX5_isAtMost_28 : decode cX5_isAtMost 28 = .ok (.laload, 1) := by decide +kernel
theorem dX5_isAtMost_29 : decode cX5_isAtMost 29 = .ok (.aload_n 1, 1) := by decide +kernel
theorem dX5_isAtMost_30 : decode cX5_isAtMost 30 = .ok (.getfield 9, 3) := by decide +kernel
theorem dX5_isAtMost_33 : decode cX5_isAtMost 33 = .ok (.iload_n 2, 1) := by decide +kernel
theorem dX5_isAtMost_34 : decode cX5_isAtMost 34 = .ok (.laload, 1) := by decide +kernel
theorem dX5_isAtMost_35 : decode cX5_isAtMost 35 = .ok (.lcmp, 1) := by decide +kernel
theorem dX5_isAtMost_36 : decode cX5_isAtMost 36 = .ok (.ifCond .ge 7, 3) := by decide +kernel
theorem dX5_isAtMost_39 : decode cX5_isAtMost 39 = .ok (.iconst 1, 1) := by decide +kernel
theorem dX5_isAtMost_40 : decode cX5_isAtMost 40 = .ok (.goto 4, 3) := by decide +kernel
theorem dX5_isAtMost_43 : decode cX5_isAtMost 43 = .ok (.iconst 0, 1) := by decide +kernel
theorem dX5_isAtMost_44 : decode cX5_isAtMost 44 = .ok (.ireturn, 1) := by decide +kernel
theorem dX5_isAtMost_45 : decode cX5_isAtMost 45 = .ok (.iinc 2 (-1), 3) := by decide +kernel
theorem dX5_isAtMost_48 : decode cX5_isAtMost 48 = .ok (.goto (-45), 3) := by decide +kernel
theorem dX5_isAtMost_51 : decode cX5_isAtMost 51 = .ok (.iconst 1, 1) := by decide +kernel
theorem dX5_isAtMost_52 : decode cX5_isAtMost 52 = .ok (.ireturn, 1) := by decide +kernel
theorem dX6_init_0 : decode cX6_init 0 = .ok (.aload_n 0, 1) := by decide +kernel
theorem dX6_init_1 : decode cX6_init 1 = .ok (.invokespecial 3, 3) := by decide +kernel
theorem dX6_init_4 : decode cX6_init 4 = .ok (.aload_n 0, 1) := by decide +kernel
theorem dX6_init_5 : decode cX6_init 5 = .ok (.new 9, 3) := by decide +kernel
theorem dX6_init_8 : decode cX6_init 8 = .ok (.dup, 1) := by decide +kernel
theorem dX6_init_9 : decode cX6_init 9 = .ok (.invokespecial 11, 3) := by decide +kernel
theorem dX6_init_12 : decode cX6_init 12 = .ok (.putfield 12, 3) := by decide +kernel
theorem dX6_init_15 : decode cX6_init 15 = .ok (.aload_n 0, 1) := by decide +kernel
theorem dX6_init_16 : decode cX6_init 16 = .ok (.new 16, 3) := by decide +kernel
theorem dX6_init_19 : decode cX6_init 19 = .ok (.dup, 1) := by decide +kernel
theorem dX6_init_20 : decode cX6_init 20 = .ok (.invokespecial 18, 3) := by decide +kernel
theorem dX6_init_23 : decode cX6_init 23 = .ok (.putfield 19, 3) := by decide +kernel
theorem dX6_init_26 : decode cX6_init 26 = .ok (.aload_n 0, 1) := by decide +kernel
theorem dX6_init_27 : decode cX6_init 27 = .ok (.new 23, 3) := by decide +kernel
theorem dX6_init_30 : decode cX6_init 30 = .ok (.dup, 1) := by decide +kernel
theorem dX6_init_31 : decode cX6_init 31 = .ok (.invokespecial 25, 3) := by decide +kernel
theorem dX6_init_34 : decode cX6_init 34 = .ok (.putfield 26, 3) := by decide +kernel
theorem dX6_init_37 : decode cX6_init 37 = .ok (.aload_n 0, 1) := by decide +kernel
theorem dX6_init_38 : decode cX6_init 38 = .ok (.new 30, 3) := by decide +kernel
theorem dX6_init_41 : decode cX6_init 41 = .ok (.dup, 1) := by decide +kernel
theorem dX6_init_42 : decode cX6_init 42 = .ok (.invokespecial 32, 3) := by decide +kernel
theorem dX6_init_45 : decode cX6_init 45 = .ok (.putfield 33, 3) := by decide +kernel
theorem dX6_init_48 : decode cX6_init 48 = .ok (.aload_n 0, 1) := by decide +kernel
end
section
theorem dX6_init_49 : decode cX6_init 49 = .ok (.new 37, 3) := by decide +kernel
theorem dX6_init_52 : decode cX6_init 52 = .ok (.dup, 1) := by decide +kernel
theorem dX6_init_53 : decode cX6_init 53 = .ok (.invokespecial 39, 3) := by decide +kernel
theorem dX6_init_56 : decode cX6_init 56 = .ok (.putfield 40, 3) := by decide +kernel
theorem dX6_init_59 : decode cX6_init 59 = .ok (.return_, 1) := by decide +kernel
theorem dX6_node_0 : decode cX6_node 0 = .ok (.iload_n 1, 1) := by decide +kernel
theorem dX6_node_1 : decode cX6_node 1 = .ok (.iconst 0, 1) := by decide +kernel
theorem dX6_node_2 : decode cX6_node 2 = .ok (.bipush 30, 2) := by decide +kernel
theorem dX6_node_4 : decode cX6_node 4 = .ok (.invokestatic 44, 3) := by decide +kernel
theorem dX6_node_7 : decode cX6_node 7 = .ok (.ifCond .eq 22, 3) := by decide +kernel
theorem dX6_node_10 : decode cX6_node 10 = .ok (.iload_n 2, 1) := by decide +kernel
theorem dX6_node_11 : decode cX6_node 11 = .ok (.iconst 0, 1) := by decide +kernel
theorem dX6_node_12 : decode cX6_node 12 = .ok (.bipush 30, 2) := by decide +kernel
theorem dX6_node_14 : decode cX6_node 14 = .ok (.invokestatic 44, 3) := by decide +kernel
theorem dX6_node_17 : decode cX6_node 17 = .ok (.ifCond .eq 12, 3) := by decide +kernel
theorem dX6_node_20 : decode cX6_node 20 = .ok (.ldc 48, 2) := by decide +kernel
theorem dX6_node_22 : decode cX6_node 22 = .ok (.iload_n 3, 1) := by decide +kernel
theorem dX6_node_23 : decode cX6_node 23 = .ok (.invokevirtual 50, 3) := by decide +kernel
theorem dX6_node_26 : decode cX6_node 26 = .ok (.ifCond .ge 13, 3) := by decide +kernel
theorem dX6_node_29 : decode cX6_node 29 = .ok (.new 56, 3) := by decide +kernel
theorem dX6_node_32 : decode cX6_node 32 = .ok (.dup, 1) := by decide +kernel
theorem dX6_node_33 : decode cX6_node 33 = .ok (.ldc 58, 2) := by decide +kernel
theorem dX6_node_35 : decode cX6_node 35 = .ok (.invokespecial 60, 3) := by decide +kernel
theorem dX6_node_38 : decode cX6_node 38 = .ok (.athrow, 1) := by decide +kernel
theorem dX6_node_39 : decode cX6_node 39 = .ok (.aload_n 0, 1) := by decide +kernel
theorem dX6_node_40 : decode cX6_node 40 = .ok (.getfield 12, 3) := by decide +kernel
theorem dX6_node_43 : decode cX6_node 43 = .ok (.getfield 63, 3) := by decide +kernel
theorem dX6_node_46 : decode cX6_node 46 = .ok (.bipush 8, 2) := by decide +kernel
theorem dX6_node_48 : decode cX6_node 48 = .ok (.if_icmp .lt 13, 3) := by decide +kernel
theorem dX6_node_51 : decode cX6_node 51 = .ok (.new 67, 3) := by decide +kernel
theorem dX6_node_54 : decode cX6_node 54 = .ok (.dup, 1) := by decide +kernel
theorem dX6_node_55 : decode cX6_node 55 = .ok (.ldc 69, 2) := by decide +kernel
theorem dX6_node_57 : decode cX6_node 57 = .ok (.invokespecial 71, 3) := by decide +kernel
theorem dX6_node_60 : decode cX6_node 60 = .ok (.athrow, 1) := by decide +kernel
theorem dX6_node_61 : decode cX6_node 61 = .ok (.aload_n 0, 1) := by decide +kernel
theorem dX6_node_62 : decode cX6_node 62 = .ok (.getfield 19, 3) := by decide +kernel
theorem dX6_node_65 : decode cX6_node 65 = .ok (.iconst 0, 1) := by decide +kernel
theorem dX6_node_66 : decode cX6_node 66 = .ok (.putfield 72, 3) := by decide +kernel
theorem dX6_node_69 : decode cX6_node 69 = .ok (.aload_n 0, 1) := by decide +kernel
theorem dX6_node_70 : decode cX6_node 70 = .ok (.getfield 12, 3) := by decide +kernel
theorem dX6_node_73 : decode cX6_node 73 = .ok (.iload_n 1, 1) := by decide +kernel
theorem dX6_node_74 : decode cX6_node 74 = .ok (.iload_n 2, 1) := by decide +kernel
theorem dX6_node_75 : decode cX6_node 75 = .ok (.iload_n 3, 1) := by decide +kernel
theorem dX6_node_76 : decode cX6_node 76 = .ok (.invokevirtual 76, 3) := by decide +kernel
theorem dX6_node_79 : decode cX6_node 79 = .ok (.ireturn, 1) := by decide +kernel
theorem dX6_member_0 : decode cX6_member 0 = .ok (.aload_n 0, 1) := by decide +kernel
theorem dX6_member_1 : decode cX6_member 1 = .ok (.iload_n 1, 1) := by decide +kernel
theorem dX6_member_2 : decode cX6_member 2 = .ok (.invokevirtual 80, 3) := by decide +kernel
theorem dX6_member_5 : decode cX6_member 5 = .ok (.aload_n 0, 1) := by decide +kernel
theorem dX6_member_6 : decode cX6_member 6 = .ok (.iload_n 2, 1) := by decide +kernel
theorem dX6_member_7 : decode cX6_member 7 = .ok (.invokevirtual 80, 3) := by decide +kernel
theorem dX6_member_10 : decode cX6_member 10 = .ok (.aload_n 0, 1) := by decide +kernel
theorem dX6_member_11 : decode cX6_member 11 = .ok (.getfield 12, 3) := by decide +kernel
theorem dX6_member_14 : decode cX6_member 14 = .ok (.iload_n 1, 1) := by decide +kernel
theorem dX6_member_15 : decode cX6_member 15 = .ok (.iload_n 2, 1) := by decide +kernel
theorem dX6_member_16 : decode cX6_member 16 = .ok (.invokevirtual 84, 3) := by decide +kernel
theorem dX6_member_19 : decode cX6_member 19 = .ok (.ifCond .ne 12, 3) := by decide +kernel
theorem dX6_member_22 : decode cX6_member 22 = .ok (.iload_n 3, 1) := by decide +kernel
theorem dX6_member_23 : decode cX6_member 23 = .ok (.iload 4, 2) := by decide +kernel
theorem dX6_member_25 : decode cX6_member 25 = .ok (.invokestatic 88, 3) := by decide +kernel
theorem dX6_member_28 : decode cX6_member 28 = .ok (.ifCond .ne 13, 3) := by decide +kernel
theorem dX6_member_31 : decode cX6_member 31 = .ok (.new 56, 3) := by decide +kernel
theorem dX6_member_34 : decode cX6_member 34 = .ok (.dup, 1) := by decide +kernel
theorem dX6_member_35 : decode cX6_member 35 = .ok (.ldc 91, 2) := by decide +kernel
theorem dX6_member_37 : decode cX6_member 37 = .ok (.invokespecial 60, 3) := by decide +kernel
theorem dX6_member_40 : decode cX6_member 40 = .ok (.athrow, 1) := by decide +kernel
theorem dX6_member_41 : decode cX6_member 41 = .ok (.aload_n 0, 1) := by decide +kernel
theorem dX6_member_42 : decode cX6_member 42 = .ok (.getfield 12, 3) := by decide +kernel
theorem dX6_member_45 : decode cX6_member 45 = .ok (.getfield 93, 3) := by decide +kernel
theorem dX6_member_48 : decode cX6_member 48 = .ok (.bipush 9, 2) := by decide +kernel
theorem dX6_member_50 : decode cX6_member 50 = .ok (.if_icmp .lt 13, 3) := by decide +kernel
theorem dX6_member_53 : decode cX6_member 53 = .ok (.new 67, 3) := by decide +kernel
theorem dX6_member_56 : decode cX6_member 56 = .ok (.dup, 1) := by decide +kernel
theorem dX6_member_57 : decode cX6_member 57 = .ok (.ldc 96, 2) := by decide +kernel
theorem dX6_member_59 : decode cX6_member 59 = .ok (.invokespecial 71, 3) := by decide +kernel
theorem dX6_member_62 : decode cX6_member 62 = .ok (.athrow, 1) := by decide +kernel
theorem dX6_member_63 : decode cX6_member 63 = .ok (.aload_n 0, 1) := by decide +kernel
theorem dX6_member_64 : decode cX6_member 64 = .ok (.getfield 19, 3) := by decide +kernel
theorem dX6_member_67 : decode cX6_member 67 = .ok (.iconst 0, 1) := by decide +kernel
theorem dX6_member_68 : decode cX6_member 68 = .ok (.putfield 72, 3) := by decide +kernel
theorem dX6_member_71 : decode cX6_member 71 = .ok (.aload_n 0, 1) := by decide +kernel
theorem dX6_member_72 : decode cX6_member 72 = .ok (.getfield 33, 3) := by decide +kernel
theorem dX6_member_75 : decode cX6_member 75 = .ok (.iconst 0, 1) := by decide +kernel
theorem dX6_member_76 : decode cX6_member 76 = .ok (.putfield 98, 3) := by decide +kernel
theorem dX6_member_79 : decode cX6_member 79 = .ok (.aload_n 0, 1) := by decide +kernel
theorem dX6_member_80 : decode cX6_member 80 = .ok (.getfield 40, 3) := by decide +kernel
theorem dX6_member_83 : decode cX6_member 83 = .ok (.iconst 0, 1) := by decide +kernel
theorem dX6_member_84 : decode cX6_member 84 = .ok (.putfield 99, 3) := by decide +kernel
theorem dX6_member_87 : decode cX6_member 87 = .ok (.aload_n 0, 1) := by decide +kernel
theorem dX6_member_88 : decode cX6_member 88 = .ok (.getfield 12, 3) := by decide +kernel
theorem dX6_member_91 : decode cX6_member 91 = .ok (.iload_n 1, 1) := by decide +kernel
theorem dX6_member_92 : decode cX6_member 92 = .ok (.iload_n 2, 1) := by decide +kernel
theorem dX6_member_93 : decode cX6_member 93 = .ok (.iload_n 3, 1) := by decide +kernel
theorem dX6_member_94 : decode cX6_member 94 = .ok (.iload 4, 2) := by decide +kernel
theorem dX6_member_96 : decode cX6_member 96 = .ok (.invokevirtual 100, 3) := by decide +kernel
theorem dX6_member_99 : decode cX6_member 99 = .ok (.ireturn, 1) := by decide +kernel
theorem dX6_load_0 : decode cX6_load 0 = .ok (.aload_n 0, 1) := by decide +kernel
theorem dX6_load_1 : decode cX6_load 1 = .ok (.iload_n 1, 1) := by decide +kernel
theorem dX6_load_2 : decode cX6_load 2 = .ok (.invokevirtual 80, 3) := by decide +kernel
theorem dX6_load_5 : decode cX6_load 5 = .ok (.iload_n 2, 1) := by decide +kernel
theorem dX6_load_6 : decode cX6_load 6 = .ok (.sipush (-999), 3) := by decide +kernel
theorem dX6_load_9 : decode cX6_load 9 = .ok (.sipush 999, 3) := by decide +kernel
theorem dX6_load_12 : decode cX6_load 12 = .ok (.invokestatic 44, 3) := by decide +kernel
theorem dX6_load_15 : decode cX6_load 15 = .ok (.ifCond .eq 16, 3) := by decide +kernel
theorem dX6_load_18 : decode cX6_load 18 = .ok (.iload_n 3, 1) := by decide +kernel
theorem dX6_load_19 : decode cX6_load 19 = .ok (.sipush (-999), 3) := by decide +kernel
theorem dX6_load_22 : decode cX6_load 22 = .ok (.sipush 999, 3) := by decide +kernel
theorem dX6_load_25 : decode cX6_load 25 = .ok (.invokestatic 44, 3) := by decide +kernel
theorem dX6_load_28 : decode cX6_load 28 = .ok (.ifCond .ne 13, 3) := by decide +kernel
theorem dX6_load_31 : decode cX6_load 31 = .ok (.new 56, 3) := by decide +kernel
theorem dX6_load_34 : decode cX6_load 34 = .ok (.dup, 1) := by decide +kernel
theorem dX6_load_35 : decode cX6_load 35 = .ok (.ldc 104, 2) := by decide +kernel
theorem dX6_load_37 : decode cX6_load 37 = .ok (.invokespecial 60, 3) := by decide +kernel
theorem dX6_load_40 : decode cX6_load 40 = .ok (.athrow, 1) := by decide +kernel
theorem dX6_load_41 : decode cX6_load 41 = .ok (.aload_n 0, 1) := by decide +kernel
theorem dX6_load_42 : decode cX6_load 42 = .ok (.getfield 19, 3) := by decide +kernel
theorem dX6_load_45 : decode cX6_load 45 = .ok (.iconst 0, 1) := by decide +kernel
theorem dX6_load_46 : decode cX6_load 46 = .ok (.putfield 72, 3) := by decide +kernel
theorem dX6_load_49 : decode cX6_load 49 = .ok (.aload_n 0, 1) := by decide +kernel
theorem dX6_load_50 : decode cX6_load 50 = .ok (.getfield 12, 3) := by decide +kernel
theorem dX6_load_53 : decode cX6_load 53 = .ok (.iload_n 1, 1) := by decide +kernel
theorem dX6_load_54 : decode cX6_load 54 = .ok (.iload_n 2, 1) := by decide +kernel
theorem dX6_load_55 : decode cX6_load 55 = .ok (.iload_n 3, 1) := by decide +kernel
theorem dX6_load_56 : decode cX6_load 56 = .ok (.invokevirtual 106, 3) := by decide +kernel
theorem dX6_load_59 : decode cX6_load 59 = .ok (.ireturn, 1) := by decide +kernel
theorem dX6_state_0 : decode cX6_state 0 = .ok (.aload_n 0, 1) := by decide +kernel
theorem dX6_state_1 : decode cX6_state 1 = .ok (.getfield 19, 3) := by decide +kernel
theorem dX6_state_4 : decode cX6_state 4 = .ok (.aload_n 0, 1) := by decide +kernel
theorem dX6_state_5 : decode cX6_state 5 = .ok (.getfield 12, 3) := by decide +kernel
theorem dX6_state_8 : decode cX6_state 8 = .ok (.invokevirtual 110, 3) := by decide +kernel
theorem dX6_state_11 : decode cX6_state 11 = .ok (.aload_n 0, 1) := by decide +kernel
theorem dX6_state_12 : decode cX6_state 12 = .ok (.getfield 19, 3) := by decide +kernel
theorem dX6_state_15 : decode cX6_state 15 = .ok (.getfield 114, 3) := by decide +kernel
theorem dX6_state_18 : decode cX6_state 18 = .ok (.ireturn, 1) := by decide +kernel
theorem dX6_force_0 : decode cX6_force 0 = .ok (.aload_n 0, 1) := by decide +kernel
theorem dX6_force_1 : decode cX6_force 1 = .ok (.iload_n 1, 1) := by decide +kernel
theorem dX6_force_2 : decode cX6_force 2 = .ok (.invokevirtual 118, 3) := by decide +kernel
theorem dX6_force_5 : decode cX6_force 5 = .ok (.aload_n 0, 1) := by decide +kernel
theorem dX6_force_6 : decode cX6_force 6 = .ok (.invokevirtual 121, 3) := by decide +kernel
theorem dX6_force_9 : decode cX6_force 9 = .ok (.aload_n 0, 1) := by decide +kernel
theorem dX6_force_10 : decode cX6_force 10 = .ok (.getfield 19, 3) := by decide +kernel
theorem dX6_force_13 : decode cX6_force 13 = .ok (.getfield 124, 3) := by decide +kernel
theorem dX6_force_16 : decode cX6_force 16 = .ok (.iload_n 1, 1) := by decide +kernel
theorem dX6_force_17 : decode cX6_force 17 = .ok (.laload, 1) := by decide +kernel
theorem dX6_force_18 : decode cX6_force 18 = .ok (.lreturn, 1) := by decide +kernel
theorem dX6_pull_0 : decode cX6_pull 0 = .ok (.aload_n 0, 1) := by decide +kernel
theorem dX6_pull_1 : decode cX6_pull 1 = .ok (.iload_n 1, 1) := by decide +kernel
theorem dX6_pull_2 : decode cX6_pull 2 = .ok (.invokevirtual 118, 3) := by decide +kernel
theorem dX6_pull_5 : decode cX6_pull 5 = .ok (.aload_n 0, 1) := by decide +kernel
theorem dX6_pull_6 : decode cX6_pull 6 = .ok (.invokevirtual 121, 3) := by decide +kernel
theorem dX6_pull_9 : decode cX6_pull 9 = .ok (.aload_n 0, 1) := by decide +kernel
theorem dX6_pull_10 : decode cX6_pull 10 = .ok (.getfield 19, 3) := by decide +kernel
theorem dX6_pull_13 : decode cX6_pull 13 = .ok (.iload_n 1, 1) := by decide +kernel
theorem dX6_pull_14 : decode cX6_pull 14 = .ok (.invokevirtual 128, 3) := by decide +kernel
theorem dX6_pull_17 : decode cX6_pull 17 = .ok (.lreturn, 1) := by decide +kernel
theorem dX6_isBalanced_0 : decode cX6_isBalanced 0 = .ok (.iload_n 1, 1) := by decide +kernel
theorem dX6_isBalanced_1 : decode cX6_isBalanced 1 = .ok (.iconst 0, 1) := by decide +kernel
theorem dX6_isBalanced_2 : decode cX6_isBalanced 2 = .ok (.bipush 30, 2) := by decide +kernel
theorem dX6_isBalanced_4 : decode cX6_isBalanced 4 = .ok (.invokestatic 44, 3) := by decide +kernel
theorem dX6_isBalanced_7 : decode cX6_isBalanced 7 = .ok (.ifCond .ne 13, 3) := by decide +kernel
theorem dX6_isBalanced_10 : decode cX6_isBalanced 10 = .ok (.new 56, 3) := by decide +kernel
theorem dX6_isBalanced_13 : decode cX6_isBalanced 13 = .ok (.dup, 1) := by decide +kernel
theorem dX6_isBalanced_14 : decode cX6_isBalanced 14 = .ok (.ldc 136, 2) := by decide +kernel
theorem dX6_isBalanced_16 : decode cX6_isBalanced 16 = .ok (.invokespecial 60, 3) := by decide +kernel
theorem dX6_isBalanced_19 : decode cX6_isBalanced 19 = .ok (.athrow, 1) := by decide +kernel
theorem dX6_isBalanced_20 : decode cX6_isBalanced 20 = .ok (.aload_n 0, 1) := by decide +kernel
theorem dX6_isBalanced_21 : decode cX6_isBalanced 21 = .ok (.invokevirtual 121, 3) := by decide +kernel
theorem dX6_isBalanced_24 : decode cX6_isBalanced 24 = .ok (.aload_n 0, 1) := by decide +kernel
theorem dX6_isBalanced_25 : decode cX6_isBalanced 25 = .ok (.getfield 19, 3) := by decide +kernel
theorem dX6_isBalanced_28 : decode cX6_isBalanced 28 = .ok (.aload_n 0, 1) := by decide +kernel
theorem dX6_isBalanced_29 : decode cX6_isBalanced 29 = .ok (.getfield 12, 3) := by decide +kernel
theorem dX6_isBalanced_32 : decode cX6_isBalanced 32 = .ok (.iload_n 1, 1) := by decide +kernel
theorem dX6_isBalanced_33 : decode cX6_isBalanced 33 = .ok (.invokevirtual 138, 3) := by decide +kernel
theorem dX6_isBalanced_36 : decode cX6_isBalanced 36 = .ok (.ireturn, 1) := by decide +kernel
theorem dX6_weakest_0 : decode cX6_weakest 0 = .ok (.aload_n 0, 1) := by decide +kernel
theorem dX6_weakest_1 : decode cX6_weakest 1 = .ok (.invokevirtual 121, 3) := by decide +kernel
theorem dX6_weakest_4 : decode cX6_weakest 4 = .ok (.aload_n 0, 1) := by decide +kernel
theorem dX6_weakest_5 : decode cX6_weakest 5 = .ok (.getfield 12, 3) := by decide +kernel
theorem dX6_weakest_8 : decode cX6_weakest 8 = .ok (.getfield 93, 3) := by decide +kernel
theorem dX6_weakest_11 : decode cX6_weakest 11 = .ok (.ifCond .ne 13, 3) := by decide +kernel
theorem dX6_weakest_14 : decode cX6_weakest 14 = .ok (.new 142, 3) := by decide +kernel
theorem dX6_weakest_17 : decode cX6_weakest 17 = .ok (.dup, 1) := by decide +kernel
theorem dX6_weakest_18 : decode cX6_weakest 18 = .ok (.ldc 144, 2) := by decide +kernel
theorem dX6_weakest_20 : decode cX6_weakest 20 = .ok (.invokespecial 146, 3) := by decide +kernel
theorem dX6_weakest_23 : decode cX6_weakest 23 = .ok (.athrow, 1) := by decide +kernel
theorem dX6_weakest_24 : decode cX6_weakest 24 = .ok (.iconst 0, 1) := by decide +kernel
theorem dX6_weakest_25 : decode cX6_weakest 25 = .ok (.istore_n 1, 1) := by decide +kernel
theorem dX6_weakest_26 : decode cX6_weakest 26 = .ok (.iconst 1, 1) := by decide +kernel
theorem dX6_weakest_27 : decode cX6_weakest 27 = .ok (.istore_n 2, 1) := by decide +kernel
theorem dX6_weakest_28 : decode cX6_weakest 28 = .ok (.iload_n 2, 1) := by decide +kernel
theorem dX6_weakest_29 : decode cX6_weakest 29 = .ok (.aload_n 0, 1) := by decide +kernel
theorem dX6_weakest_30 : decode cX6_weakest 30 = .ok (.getfield 12, 3) := by decide +kernel
theorem dX6_weakest_33 : decode cX6_weakest 33 = .ok (.getfield 93, 3) := by decide +kernel
theorem dX6_weakest_36 : decode cX6_weakest 36 = .ok (.if_icmp .ge 39, 3) := by decide +kernel
theorem dX6_weakest_39 : decode cX6_weakest 39 = .ok (.aload_n 0, 1) := by decide +kernel
theorem dX6_weakest_40 : decode cX6_weakest 40 = .ok (.getfield 19, 3) := by decide +kernel
theorem dX6_weakest_43 : decode cX6_weakest 43 = .ok (.getfield 124, 3) := by decide +kernel
theorem dX6_weakest_46 : decode cX6_weakest 46 = .ok (.iload_n 2, 1) := by decide +kernel
theorem dX6_weakest_47 : decode cX6_weakest 47 = .ok (.laload, 1) := by decide +kernel
theorem dX6_weakest_48 : decode cX6_weakest 48 = .ok (.invokestatic 147, 3) := by decide +kernel
theorem dX6_weakest_51 : decode cX6_weakest 51 = .ok (.aload_n 0, 1) := by decide +kernel
theorem dX6_weakest_52 : decode cX6_weakest 52 = .ok (.getfield 19, 3) := by decide +kernel
theorem dX6_weakest_55 : decode cX6_weakest 55 = .ok (.getfield 124, 3) := by decide +kernel
theorem dX6_weakest_58 : decode cX6_weakest 58 = .ok (.iload_n 1, 1) := by decide +kernel
theorem dX6_weakest_59 : decode cX6_weakest 59 = .ok (.laload, 1) := by decide +kernel
theorem dX6_weakest_60 : decode cX6_weakest 60 = .ok (.invokestatic 147, 3) := by decide +kernel
theorem dX6_weakest_63 : decode cX6_weakest 63 = .ok (.lcmp, 1) := by decide +kernel
theorem dX6_weakest_64 : decode cX6_weakest 64 = .ok (.ifCond .le 5, 3) := by decide +kernel
theorem dX6_weakest_67 : decode cX6_weakest 67 = .ok (.iload_n 2, 1) := by decide +kernel
theorem dX6_weakest_68 : decode cX6_weakest 68 = .ok (.istore_n 1, 1) := by decide +kernel
theorem dX6_weakest_69 : decode cX6_weakest 69 = .ok (.iinc 2 1, 3) := by decide +kernel
theorem dX6_weakest_72 : decode cX6_weakest 72 = .ok (.goto (-44), 3) := by decide +kernel
theorem dX6_weakest_75 : decode cX6_weakest 75 = .ok (.iload_n 1, 1) := by decide +kernel
theorem dX6_weakest_76 : decode cX6_weakest 76 = .ok (.ireturn, 1) := by decide +kernel
theorem dX6_joint_0 : decode cX6_joint 0 = .ok (.aload_n 0, 1) := by decide +kernel
theorem dX6_joint_1 : decode cX6_joint 1 = .ok (.iload_n 1, 1) := by decide +kernel
theorem dX6_joint_2 : decode cX6_joint 2 = .ok (.invokevirtual 118, 3) := by decide +kernel
theorem dX6_joint_5 : decode cX6_joint 5 = .ok (.aload_n 0, 1) := by decide +kernel
theorem dX6_joint_6 : decode cX6_joint 6 = .ok (.iload_n 2, 1) := by decide +kernel
theorem dX6_joint_7 : decode cX6_joint 7 = .ok (.invokevirtual 118, 3) := by decide +kernel
theorem dX6_joint_10 : decode cX6_joint 10 = .ok (.iload_n 1, 1) := by decide +kernel
theorem dX6_joint_11 : decode cX6_joint 11 = .ok (.iload_n 2, 1) := by decide +kernel
theorem dX6_joint_12 : decode cX6_joint 12 = .ok (.if_icmp .eq 36, 3) := by decide +kernel
theorem dX6_joint_15 : decode cX6_joint 15 = .ok (.aload_n 0, 1) := by decide +kernel
theorem dX6_joint_16 : decode cX6_joint 16 = .ok (.getfield 26, 3) := by decide +kernel
theorem dX6_joint_19 : decode cX6_joint 19 = .ok (.iload_n 3, 1) := by decide +kernel
theorem dX6_joint_20 : decode cX6_joint 20 = .ok (.invokevirtual 153, 3) := by decide +kernel
theorem dX6_joint_23 : decode cX6_joint 23 = .ok (.ifCond .lt 25, 3) := by decide +kernel
theorem dX6_joint_26 : decode cX6_joint 26 = .ok (.iload 4, 2) := by decide +kernel
theorem dX6_joint_28 : decode cX6_joint 28 = .ok (.iconst 2, 1) := by decide +kernel
theorem dX6_joint_29 : decode cX6_joint 29 = .ok (.bipush 20, 2) := by decide +kernel
theorem dX6_joint_31 : decode cX6_joint 31 = .ok (.invokestatic 44, 3) := by decide +kernel
theorem dX6_joint_34 : decode cX6_joint 34 = .ok (.ifCond .eq 14, 3) := by decide +kernel
theorem dX6_joint_37 : decode cX6_joint 37 = .ok (.iload 5, 2) := by decide +kernel
theorem dX6_joint_39 : decode cX6_joint 39 = .ok (.iconst 1, 1) := by decide +kernel
theorem dX6_joint_40 : decode cX6_joint 40 = .ok (.bipush 31, 2) := by decide +kernel
theorem dX6_joint_42 : decode cX6_joint 42 = .ok (.invokestatic 44, 3) := by decide +kernel
theorem dX6_joint_45 : decode cX6_joint 45 = .ok (.ifCond .ne 13, 3) := by decide +kernel
theorem dX6_joint_48 : decode cX6_joint 48 = .ok (.new 56, 3) := by decide +kernel
theorem dX6_joint_51 : decode cX6_joint 51 = .ok (.dup, 1) := by decide +kernel
theorem dX6_joint_52 : decode cX6_joint 52 = .ok (.ldc 157, 2) := by decide +kernel
theorem dX6_joint_54 : decode cX6_joint 54 = .ok (.invokespecial 60, 3) := by decide +kernel
theorem dX6_joint_57 : decode cX6_joint 57 = .ok (.athrow, 1) := by decide +kernel
theorem dX6_joint_58 : decode cX6_joint 58 = .ok (.aload_n 0, 1) := by decide +kernel
theorem dX6_joint_59 : decode cX6_joint 59 = .ok (.getfield 12, 3) := by decide +kernel
theorem dX6_joint_62 : decode cX6_joint 62 = .ok (.iload_n 1, 1) := by decide +kernel
theorem dX6_joint_63 : decode cX6_joint 63 = .ok (.iload_n 2, 1) := by decide +kernel
theorem dX6_joint_64 : decode cX6_joint 64 = .ok (.invokevirtual 159, 3) := by decide +kernel
theorem dX6_joint_67 : decode cX6_joint 67 = .ok (.ifCond .eq 15, 3) := by decide +kernel
theorem dX6_joint_70 : decode cX6_joint 70 = .ok (.aload_n 0, 1) := by decide +kernel
theorem dX6_joint_71 : decode cX6_joint 71 = .ok (.getfield 26, 3) := by decide +kernel
theorem dX6_joint_74 : decode cX6_joint 74 = .ok (.iload_n 1, 1) := by decide +kernel
theorem dX6_joint_75 : decode cX6_joint 75 = .ok (.iload_n 2, 1) := by decide +kernel
theorem dX6_joint_76 : decode cX6_joint 76 = .ok (.invokevirtual 162, 3) := by decide +kernel
theorem dX6_joint_79 : decode cX6_joint 79 = .ok (.ifCond .eq 13, 3) := by decide +kernel
theorem dX6_joint_82 : decode cX6_joint 82 = .ok (.new 165, 3) := by decide +kernel
theorem dX6_joint_85 : decode cX6_joint 85 = .ok (.dup, 1) := by decide +kernel
theorem dX6_joint_86 : decode cX6_joint 86 = .ok (.ldc 167, 2) := by decide +kernel
theorem dX6_joint_88 : decode cX6_joint 88 = .ok (.invokespecial 169, 3) := by decide +kernel
theorem dX6_joint_91 : decode cX6_joint 91 = .ok (.athrow, 1) := by decide +kernel
theorem dX6_joint_92 : decode cX6_joint 92 = .ok (.aload_n 0, 1) := by decide +kernel
theorem dX6_joint_93 : decode cX6_joint 93 = .ok (.getfield 26, 3) := by decide +kernel
theorem dX6_joint_96 : decode cX6_joint 96 = .ok (.getfield 170, 3) := by decide +kernel
theorem dX6_joint_99 : decode cX6_joint 99 = .ok (.bipush 12, 2) := by decide +kernel
theorem dX6_joint_101 : decode cX6_joint 101 = .ok (.if_icmp .lt 13, 3) := by decide +kernel
theorem dX6_joint_104 : decode cX6_joint 104 = .ok (.new 67, 3) := by decide +kernel
theorem dX6_joint_107 : decode cX6_joint 107 = .ok (.dup, 1) := by decide +kernel
theorem dX6_joint_108 : decode cX6_joint 108 = .ok (.ldc 173, 2) := by decide +kernel
theorem dX6_joint_110 : decode cX6_joint 110 = .ok (.invokespecial 71, 3) := by decide +kernel
theorem dX6_joint_113 : decode cX6_joint 113 = .ok (.athrow, 1) := by decide +kernel
theorem dX6_joint_114 : decode cX6_joint 114 = .ok (.aload_n 0, 1) := by decide +kernel
theorem dX6_joint_115 : decode cX6_joint 115 = .ok (.getfield 33, 3) := by decide +kernel
theorem dX6_joint_118 : decode cX6_joint 118 = .ok (.iconst 0, 1) := by decide +kernel
theorem dX6_joint_119 : decode cX6_joint 119 = .ok (.putfield 98, 3) := by decide +kernel
theorem dX6_joint_122 : decode cX6_joint 122 = .ok (.aload_n 0, 1) := by decide +kernel
theorem dX6_joint_123 : decode cX6_joint 123 = .ok (.getfield 40, 3) := by decide +kernel
theorem dX6_joint_126 : decode cX6_joint 126 = .ok (.iconst 0, 1) := by decide +kernel
theorem dX6_joint_127 : decode cX6_joint 127 = .ok (.putfield 99, 3) := by decide +kernel
theorem dX6_joint_130 : decode cX6_joint 130 = .ok (.aload_n 0, 1) := by decide +kernel
theorem dX6_joint_131 : decode cX6_joint 131 = .ok (.getfield 26, 3) := by decide +kernel
theorem dX6_joint_134 : decode cX6_joint 134 = .ok (.iload_n 1, 1) := by decide +kernel
theorem dX6_joint_135 : decode cX6_joint 135 = .ok (.iload_n 2, 1) := by decide +kernel
theorem dX6_joint_136 : decode cX6_joint 136 = .ok (.aload_n 0, 1) := by decide +kernel
theorem dX6_joint_137 : decode cX6_joint 137 = .ok (.getfield 26, 3) := by decide +kernel
theorem dX6_joint_140 : decode cX6_joint 140 = .ok (.iload_n 3, 1) := by decide +kernel
theorem dX6_joint_141 : decode cX6_joint 141 = .ok (.invokevirtual 153, 3) := by decide +kernel
theorem dX6_joint_144 : decode cX6_joint 144 = .ok (.iload 4, 2) := by decide +kernel
theorem dX6_joint_146 : decode cX6_joint 146 = .ok (.iload 5, 2) := by decide +kernel
theorem dX6_joint_148 : decode cX6_joint 148 = .ok (.invokevirtual 175, 3) := by decide +kernel
theorem dX6_joint_151 : decode cX6_joint 151 = .ok (.ireturn, 1) := by decide +kernel
theorem dX6_isRight_0 : decode cX6_isRight 0 = .ok (.aload_n 0, 1) := by decide +kernel
theorem dX6_isRight_1 : decode cX6_isRight 1 = .ok (.iload_n 1, 1) := by decide +kernel
theorem dX6_isRight_2 : decode cX6_isRight 2 = .ok (.invokevirtual 179, 3) := by decide +kernel
theorem dX6_isRight_5 : decode cX6_isRight 5 = .ok (.aload_n 0, 1) := by decide +kernel
theorem dX6_isRight_6 : decode cX6_isRight 6 = .ok (.getfield 26, 3) := by decide +kernel
theorem dX6_isRight_9 : decode cX6_isRight 9 = .ok (.iload_n 1, 1) := by decide +kernel
theorem dX6_isRight_10 : decode cX6_isRight 10 = .ok (.aload_n 0, 1) := by decide +kernel
theorem dX6_isRight_11 : decode cX6_isRight 11 = .ok (.getfield 12, 3) := by decide +kernel
theorem dX6_isRight_14 : decode cX6_isRight 14 = .ok (.invokevirtual 182, 3) := by decide +kernel
theorem dX6_isRight_17 : decode cX6_isRight 17 = .ok (.ireturn, 1) := by decide +kernel
theorem dX6_misread_0 : decode cX6_misread 0 = .ok (.aload_n 0, 1) := by decide +kernel
theorem dX6_misread_1 : decode cX6_misread 1 = .ok (.iload_n 1, 1) := by decide +kernel
theorem dX6_misread_2 : decode cX6_misread 2 = .ok (.invokevirtual 179, 3) := by decide +kernel
theorem dX6_misread_5 : decode cX6_misread 5 = .ok (.aload_n 0, 1) := by decide +kernel
theorem dX6_misread_6 : decode cX6_misread 6 = .ok (.getfield 26, 3) := by decide +kernel
theorem dX6_misread_9 : decode cX6_misread 9 = .ok (.iload_n 1, 1) := by decide +kernel
theorem dX6_misread_10 : decode cX6_misread 10 = .ok (.invokevirtual 186, 3) := by decide +kernel
theorem dX6_misread_13 : decode cX6_misread 13 = .ok (.ireturn, 1) := by decide +kernel
theorem dX6_clashes_0 : decode cX6_clashes 0 = .ok (.iconst 0, 1) := by decide +kernel
theorem dX6_clashes_1 : decode cX6_clashes 1 = .ok (.istore_n 1, 1) := by decide +kernel
theorem dX6_clashes_2 : decode cX6_clashes 2 = .ok (.iconst 0, 1) := by decide +kernel
theorem dX6_clashes_3 : decode cX6_clashes 3 = .ok (.istore_n 2, 1) := by decide +kernel
theorem dX6_clashes_4 : decode cX6_clashes 4 = .ok (.iload_n 2, 1) := by decide +kernel
theorem dX6_clashes_5 : decode cX6_clashes 5 = .ok (.aload_n 0, 1) := by decide +kernel
theorem dX6_clashes_6 : decode cX6_clashes 6 = .ok (.getfield 26, 3) := by decide +kernel
theorem dX6_clashes_9 : decode cX6_clashes 9 = .ok (.getfield 170, 3) := by decide +kernel
theorem dX6_clashes_12 : decode cX6_clashes 12 = .ok (.if_icmp .ge 42, 3) := by decide +kernel
theorem dX6_clashes_15 : decode cX6_clashes 15 = .ok (.iconst 0, 1) := by decide +kernel
theorem dX6_clashes_16 : decode cX6_clashes 16 = .ok (.istore_n 3, 1) := by decide +kernel
theorem dX6_clashes_17 : decode cX6_clashes 17 = .ok (.iload_n 3, 1) := by decide +kernel
theorem dX6_clashes_18 : decode cX6_clashes 18 = .ok (.iload_n 2, 1) := by decide +kernel
theorem dX6_clashes_19 : decode cX6_clashes 19 = .ok (.if_icmp .ge 29, 3) := by decide +kernel
theorem dX6_clashes_22 : decode cX6_clashes 22 = .ok (.iload_n 1, 1) := by decide +kernel
theorem dX6_clashes_23 : decode cX6_clashes 23 = .ok (.aload_n 0, 1) := by decide +kernel
theorem dX6_clashes_24 : decode cX6_clashes 24 = .ok (.getfield 26, 3) := by decide +kernel
theorem dX6_clashes_27 : decode cX6_clashes 27 = .ok (.iload_n 2, 1) := by decide +kernel
theorem dX6_clashes_28 : decode cX6_clashes 28 = .ok (.iload_n 3, 1) := by decide +kernel
theorem dX6_clashes_29 : decode cX6_clashes 29 = .ok (.invokevirtual 189, 3) := by decide +kernel
theorem dX6_clashes_32 : decode cX6_clashes 32 = .ok (.ifCond .eq 7, 3) := by decide +kernel
theorem dX6_clashes_35 : decode cX6_clashes 35 = .ok (.iconst 1, 1) := by decide +kernel
theorem dX6_clashes_36 : decode cX6_clashes 36 = .ok (.goto 4, 3) := by decide +kernel
theorem dX6_clashes_39 : decode cX6_clashes 39 = .ok (.iconst 0, 1) := by decide +kernel
theorem dX6_clashes_40 : decode cX6_clashes 40 = .ok (.iadd, 1) := by decide +kernel
theorem dX6_clashes_41 : decode cX6_clashes 41 = .ok (.istore_n 1, 1) := by decide +kernel
theorem dX6_clashes_42 : decode cX6_clashes 42 = .ok (.iinc 3 1, 3) := by decide +kernel
theorem dX6_clashes_45 : decode cX6_clashes 45 = .ok (.goto (-28), 3) := by decide +kernel
theorem dX6_clashes_48 : decode cX6_clashes 48 = .ok (.iinc 2 1, 3) := by decide +kernel
theorem dX6_clashes_51 : decode cX6_clashes 51 = .ok (.goto (-47), 3) := by decide +kernel
theorem dX6_clashes_54 : decode cX6_clashes 54 = .ok (.iload_n 1, 1) := by decide +kernel
theorem dX6_clashes_55 : decode cX6_clashes 55 = .ok (.ireturn, 1) := by decide +kernel
theorem dX6_cutAt_0 : decode cX6_cutAt 0 = .ok (.aload_n 0, 1) := by decide +kernel
theorem dX6_cutAt_1 : decode cX6_cutAt 1 = .ok (.iload_n 1, 1) := by decide +kernel
theorem dX6_cutAt_2 : decode cX6_cutAt 2 = .ok (.invokevirtual 118, 3) := by decide +kernel
theorem dX6_cutAt_5 : decode cX6_cutAt 5 = .ok (.aload_n 0, 1) := by decide +kernel
theorem dX6_cutAt_6 : decode cX6_cutAt 6 = .ok (.iload_n 2, 1) := by decide +kernel
theorem dX6_cutAt_7 : decode cX6_cutAt 7 = .ok (.invokevirtual 192, 3) := by decide +kernel
theorem dX6_cutAt_10 : decode cX6_cutAt 10 = .ok (.aload_n 0, 1) := by decide +kernel
theorem dX6_cutAt_11 : decode cX6_cutAt 11 = .ok (.getfield 12, 3) := by decide +kernel
theorem dX6_cutAt_14 : decode cX6_cutAt 14 = .ok (.getfield 195, 3) := by decide +kernel
theorem dX6_cutAt_17 : decode cX6_cutAt 17 = .ok (.iload_n 1, 1) := by decide +kernel
theorem dX6_cutAt_18 : decode cX6_cutAt 18 = .ok (.iaload, 1) := by decide +kernel
theorem dX6_cutAt_19 : decode cX6_cutAt 19 = .ok (.istore_n 3, 1) := by decide +kernel
theorem dX6_cutAt_20 : decode cX6_cutAt 20 = .ok (.aload_n 0, 1) := by decide +kernel
theorem dX6_cutAt_21 : decode cX6_cutAt 21 = .ok (.getfield 12, 3) := by decide +kernel
theorem dX6_cutAt_24 : decode cX6_cutAt 24 = .ok (.getfield 195, 3) := by decide +kernel
theorem dX6_cutAt_27 : decode cX6_cutAt 27 = .ok (.iload_n 1, 1) := by decide +kernel
theorem dX6_cutAt_28 : decode cX6_cutAt 28 = .ok (.iload_n 2, 1) := by decide +kernel
theorem dX6_cutAt_29 : decode cX6_cutAt 29 = .ok (.iastore, 1) := by decide +kernel
theorem dX6_cutAt_30 : decode cX6_cutAt 30 = .ok (.iload_n 3, 1) := by decide +kernel
theorem dX6_cutAt_31 : decode cX6_cutAt 31 = .ok (.ireturn, 1) := by decide +kernel
theorem dX6_dry_0 : decode cX6_dry 0 = .ok (.aload_n 0, 1) := by decide +kernel
theorem dX6_dry_1 : decode cX6_dry 1 = .ok (.iload_n 1, 1) := by decide +kernel
theorem dX6_dry_2 : decode cX6_dry 2 = .ok (.invokevirtual 118, 3) := by decide +kernel
theorem dX6_dry_5 : decode cX6_dry 5 = .ok (.aload_n 0, 1) := by decide +kernel
theorem dX6_dry_6 : decode cX6_dry 6 = .ok (.iload_n 2, 1) := by decide +kernel
theorem dX6_dry_7 : decode cX6_dry 7 = .ok (.invokevirtual 192, 3) := by decide +kernel
theorem dX6_dry_10 : decode cX6_dry 10 = .ok (.aload_n 0, 1) := by decide +kernel
theorem dX6_dry_11 : decode cX6_dry 11 = .ok (.getfield 12, 3) := by decide +kernel
theorem dX6_dry_14 : decode cX6_dry 14 = .ok (.getfield 199, 3) := by decide +kernel
theorem dX6_dry_17 : decode cX6_dry 17 = .ok (.iload_n 1, 1) := by decide +kernel
theorem dX6_dry_18 : decode cX6_dry 18 = .ok (.iaload, 1) := by decide +kernel
theorem dX6_dry_19 : decode cX6_dry 19 = .ok (.istore_n 3, 1) := by decide +kernel
theorem dX6_dry_20 : decode cX6_dry 20 = .ok (.aload_n 0, 1) := by decide +kernel
theorem dX6_dry_21 : decode cX6_dry 21 = .ok (.getfield 12, 3) := by decide +kernel
theorem dX6_dry_24 : decode cX6_dry 24 = .ok (.getfield 199, 3) := by decide +kernel
theorem dX6_dry_27 : decode cX6_dry 27 = .ok (.iload_n 1, 1) := by decide +kernel
theorem dX6_dry_28 : decode cX6_dry 28 = .ok (.iload_n 2, 1) := by decide +kernel
theorem dX6_dry_29 : decode cX6_dry 29 = .ok (.iastore, 1) := by decide +kernel
theorem dX6_dry_30 : decode cX6_dry 30 = .ok (.iload_n 3, 1) := by decide +kernel
theorem dX6_dry_31 : decode cX6_dry 31 = .ok (.ireturn, 1) := by decide +kernel
theorem dX6_gap_0 : decode cX6_gap 0 = .ok (.aload_n 0, 1) := by decide +kernel
theorem dX6_gap_1 : decode cX6_gap 1 = .ok (.iload_n 1, 1) := by decide +kernel
theorem dX6_gap_2 : decode cX6_gap 2 = .ok (.invokevirtual 179, 3) := by decide +kernel
theorem dX6_gap_5 : decode cX6_gap 5 = .ok (.aload_n 0, 1) := by decide +kernel
theorem dX6_gap_6 : decode cX6_gap 6 = .ok (.getfield 26, 3) := by decide +kernel
theorem dX6_gap_9 : decode cX6_gap 9 = .ok (.iload_n 1, 1) := by decide +kernel
theorem dX6_gap_10 : decode cX6_gap 10 = .ok (.aload_n 0, 1) := by decide +kernel
theorem dX6_gap_11 : decode cX6_gap 11 = .ok (.getfield 12, 3) := by decide +kernel
theorem dX6_gap_14 : decode cX6_gap 14 = .ok (.invokevirtual 202, 3) := by decide +kernel
theorem dX6_gap_17 : decode cX6_gap 17 = .ok (.ireturn, 1) := by decide +kernel
theorem dX6_widest_0 : decode cX6_widest 0 = .ok (.aload_n 0, 1) := by decide +kernel
theorem dX6_widest_1 : decode cX6_widest 1 = .ok (.getfield 26, 3) := by decide +kernel
theorem dX6_widest_4 : decode cX6_widest 4 = .ok (.getfield 170, 3) := by decide +kernel
theorem dX6_widest_7 : decode cX6_widest 7 = .ok (.ifCond .ne 13, 3) := by decide +kernel
theorem dX6_widest_10 : decode cX6_widest 10 = .ok (.new 142, 3) := by decide +kernel
theorem dX6_widest_13 : decode cX6_widest 13 = .ok (.dup, 1) := by decide +kernel
theorem dX6_widest_14 : decode cX6_widest 14 = .ok (.ldc 206, 2) := by decide +kernel
theorem dX6_widest_16 : decode cX6_widest 16 = .ok (.invokespecial 146, 3) := by decide +kernel
theorem dX6_widest_19 : decode cX6_widest 19 = .ok (.athrow, 1) := by decide +kernel
theorem dX6_widest_20 : decode cX6_widest 20 = .ok (.iconst 0, 1) := by decide +kernel
theorem dX6_widest_21 : decode cX6_widest 21 = .ok (.istore_n 1, 1) := by decide +kernel
theorem dX6_widest_22 : decode cX6_widest 22 = .ok (.iconst 1, 1) := by decide +kernel
theorem dX6_widest_23 : decode cX6_widest 23 = .ok (.istore_n 2, 1) := by decide +kernel
theorem dX6_widest_24 : decode cX6_widest 24 = .ok (.iload_n 2, 1) := by decide +kernel
theorem dX6_widest_25 : decode cX6_widest 25 = .ok (.aload_n 0, 1) := by decide +kernel
theorem dX6_widest_26 : decode cX6_widest 26 = .ok (.getfield 26, 3) := by decide +kernel
theorem dX6_widest_29 : decode cX6_widest 29 = .ok (.getfield 170, 3) := by decide +kernel
theorem dX6_widest_32 : decode cX6_widest 32 = .ok (.if_icmp .ge 38, 3) := by decide +kernel
theorem dX6_widest_35 : decode cX6_widest 35 = .ok (.aload_n 0, 1) := by decide +kernel
theorem dX6_widest_36 : decode cX6_widest 36 = .ok (.getfield 26, 3) := by decide +kernel
theorem dX6_widest_39 : decode cX6_widest 39 = .ok (.iload_n 2, 1) := by decide +kernel
theorem dX6_widest_40 : decode cX6_widest 40 = .ok (.aload_n 0, 1) := by decide +kernel
theorem dX6_widest_41 : decode cX6_widest 41 = .ok (.getfield 12, 3) := by decide +kernel
theorem dX6_widest_44 : decode cX6_widest 44 = .ok (.invokevirtual 202, 3) := by decide +kernel
theorem dX6_widest_47 : decode cX6_widest 47 = .ok (.aload_n 0, 1) := by decide +kernel
theorem dX6_widest_48 : decode cX6_widest 48 = .ok (.getfield 26, 3) := by decide +kernel
theorem dX6_widest_51 : decode cX6_widest 51 = .ok (.iload_n 1, 1) := by decide +kernel
theorem dX6_widest_52 : decode cX6_widest 52 = .ok (.aload_n 0, 1) := by decide +kernel
theorem dX6_widest_53 : decode cX6_widest 53 = .ok (.getfield 12, 3) := by decide +kernel
theorem dX6_widest_56 : decode cX6_widest 56 = .ok (.invokevirtual 202, 3) := by decide +kernel
theorem dX6_widest_59 : decode cX6_widest 59 = .ok (.if_icmp .le 5, 3) := by decide +kernel
theorem dX6_widest_62 : decode cX6_widest 62 = .ok (.iload_n 2, 1) := by decide +kernel
theorem dX6_widest_63 : decode cX6_widest 63 = .ok (.istore_n 1, 1) := by decide +kernel
theorem dX6_widest_64 : decode cX6_widest 64 = .ok (.iinc 2 1, 3) := by decide +kernel
theorem dX6_widest_67 : decode cX6_widest 67 = .ok (.goto (-43), 3) := by decide +kernel
theorem dX6_widest_70 : decode cX6_widest 70 = .ok (.iload_n 1, 1) := by decide +kernel
theorem dX6_widest_71 : decode cX6_widest 71 = .ok (.ireturn, 1) := by decide +kernel
theorem dX6_stick_0 : decode cX6_stick 0 = .ok (.iload_n 1, 1) := by decide +kernel
theorem dX6_stick_1 : decode cX6_stick 1 = .ok (.iconst 1, 1) := by decide +kernel
theorem dX6_stick_2 : decode cX6_stick 2 = .ok (.sipush 900, 3) := by decide +kernel
theorem dX6_stick_5 : decode cX6_stick 5 = .ok (.invokestatic 44, 3) := by decide +kernel
theorem dX6_stick_8 : decode cX6_stick 8 = .ok (.ifCond .eq 11, 3) := by decide +kernel
theorem dX6_stick_11 : decode cX6_stick 11 = .ok (.iload_n 2, 1) := by decide +kernel
theorem dX6_stick_12 : decode cX6_stick 12 = .ok (.iload_n 3, 1) := by decide +kernel
theorem dX6_stick_13 : decode cX6_stick 13 = .ok (.invokestatic 88, 3) := by decide +kernel
theorem dX6_stick_16 : decode cX6_stick 16 = .ok (.ifCond .ne 13, 3) := by decide +kernel
theorem dX6_stick_19 : decode cX6_stick 19 = .ok (.new 56, 3) := by decide +kernel
theorem dX6_stick_22 : decode cX6_stick 22 = .ok (.dup, 1) := by decide +kernel
theorem dX6_stick_23 : decode cX6_stick 23 = .ok (.ldc 208, 2) := by decide +kernel
theorem dX6_stick_25 : decode cX6_stick 25 = .ok (.invokespecial 60, 3) := by decide +kernel
theorem dX6_stick_28 : decode cX6_stick 28 = .ok (.athrow, 1) := by decide +kernel
theorem dX6_stick_29 : decode cX6_stick 29 = .ok (.aload_n 0, 1) := by decide +kernel
theorem dX6_stick_30 : decode cX6_stick 30 = .ok (.getfield 33, 3) := by decide +kernel
theorem dX6_stick_33 : decode cX6_stick 33 = .ok (.getfield 210, 3) := by decide +kernel
theorem dX6_stick_36 : decode cX6_stick 36 = .ok (.iconst 5, 1) := by decide +kernel
theorem dX6_stick_37 : decode cX6_stick 37 = .ok (.if_icmp .lt 13, 3) := by decide +kernel
theorem dX6_stick_40 : decode cX6_stick 40 = .ok (.new 67, 3) := by decide +kernel
theorem dX6_stick_43 : decode cX6_stick 43 = .ok (.dup, 1) := by decide +kernel
theorem dX6_stick_44 : decode cX6_stick 44 = .ok (.ldc 211, 2) := by decide +kernel
theorem dX6_stick_46 : decode cX6_stick 46 = .ok (.invokespecial 71, 3) := by decide +kernel
theorem dX6_stick_49 : decode cX6_stick 49 = .ok (.athrow, 1) := by decide +kernel
theorem dX6_stick_50 : decode cX6_stick 50 = .ok (.aload_n 0, 1) := by decide +kernel
theorem dX6_stick_51 : decode cX6_stick 51 = .ok (.getfield 33, 3) := by decide +kernel
theorem dX6_stick_54 : decode cX6_stick 54 = .ok (.iconst 0, 1) := by decide +kernel
theorem dX6_stick_55 : decode cX6_stick 55 = .ok (.putfield 98, 3) := by decide +kernel
theorem dX6_stick_58 : decode cX6_stick 58 = .ok (.aload_n 0, 1) := by decide +kernel
theorem dX6_stick_59 : decode cX6_stick 59 = .ok (.getfield 33, 3) := by decide +kernel
theorem dX6_stick_62 : decode cX6_stick 62 = .ok (.iload_n 1, 1) := by decide +kernel
theorem dX6_stick_63 : decode cX6_stick 63 = .ok (.iload_n 2, 1) := by decide +kernel
theorem dX6_stick_64 : decode cX6_stick 64 = .ok (.iload_n 3, 1) := by decide +kernel
theorem dX6_stick_65 : decode cX6_stick 65 = .ok (.invokevirtual 213, 3) := by decide +kernel
theorem dX6_stick_68 : decode cX6_stick 68 = .ok (.ireturn, 1) := by decide +kernel
theorem dX6_piece_0 : decode cX6_piece 0 = .ok (.aload_n 0, 1) := by decide +kernel
theorem dX6_piece_1 : decode cX6_piece 1 = .ok (.iload_n 1, 1) := by decide +kernel
theorem dX6_piece_2 : decode cX6_piece 2 = .ok (.invokevirtual 118, 3) := by decide +kernel
theorem dX6_piece_5 : decode cX6_piece 5 = .ok (.aload_n 0, 1) := by decide +kernel
theorem dX6_piece_6 : decode cX6_piece 6 = .ok (.getfield 33, 3) := by decide +kernel
theorem dX6_piece_9 : decode cX6_piece 9 = .ok (.iload_n 1, 1) := by decide +kernel
theorem dX6_piece_10 : decode cX6_piece 10 = .ok (.aload_n 0, 1) := by decide +kernel
theorem dX6_piece_11 : decode cX6_piece 11 = .ok (.getfield 12, 3) := by decide +kernel
theorem dX6_piece_14 : decode cX6_piece 14 = .ok (.aload_n 0, 1) := by decide +kernel
theorem dX6_piece_15 : decode cX6_piece 15 = .ok (.getfield 26, 3) := by decide +kernel
theorem dX6_piece_18 : decode cX6_piece 18 = .ok (.invokevirtual 215, 3) := by decide +kernel
theorem dX6_piece_21 : decode cX6_piece 21 = .ok (.ireturn, 1) := by decide +kernel
theorem dX6_stickOf_0 : decode cX6_stickOf 0 = .ok (.aload_n 0, 1) := by decide +kernel
theorem dX6_stickOf_1 : decode cX6_stickOf 1 = .ok (.iload_n 1, 1) := by decide +kernel
theorem dX6_stickOf_2 : decode cX6_stickOf 2 = .ok (.invokevirtual 118, 3) := by decide +kernel
theorem dX6_stickOf_5 : decode cX6_stickOf 5 = .ok (.aload_n 0, 1) := by decide +kernel
theorem dX6_stickOf_6 : decode cX6_stickOf 6 = .ok (.invokevirtual 219, 3) := by decide +kernel
theorem dX6_stickOf_9 : decode cX6_stickOf 9 = .ok (.aload_n 0, 1) := by decide +kernel
theorem dX6_stickOf_10 : decode cX6_stickOf 10 = .ok (.getfield 33, 3) := by decide +kernel
theorem dX6_stickOf_13 : decode cX6_stickOf 13 = .ok (.getfield 222, 3) := by decide +kernel
theorem dX6_stickOf_16 : decode cX6_stickOf 16 = .ok (.iload_n 1, 1) := by decide +kernel
theorem dX6_stickOf_17 : decode cX6_stickOf 17 = .ok (.iaload, 1) := by decide +kernel
theorem dX6_stickOf_18 : decode cX6_stickOf 18 = .ok (.ireturn, 1) := by decide +kernel
theorem dX6_wood_0 : decode cX6_wood 0 = .ok (.aload_n 0, 1) := by decide +kernel
theorem dX6_wood_1 : decode cX6_wood 1 = .ok (.invokevirtual 219, 3) := by decide +kernel
theorem dX6_wood_4 : decode cX6_wood 4 = .ok (.aload_n 0, 1) := by decide +kernel
theorem dX6_wood_5 : decode cX6_wood 5 = .ok (.getfield 33, 3) := by decide +kernel
theorem dX6_wood_8 : decode cX6_wood 8 = .ok (.getfield 225, 3) := by decide +kernel
theorem dX6_wood_11 : decode cX6_wood 11 = .ok (.ireturn, 1) := by decide +kernel
theorem dX6_waste_0 : decode cX6_waste 0 = .ok (.iload_n 1, 1) := by decide +kernel
theorem dX6_waste_1 : decode cX6_waste 1 = .ok (.ifCond .lt 14, 3) := by decide +kernel
theorem dX6_waste_4 : decode cX6_waste 4 = .ok (.iload_n 1, 1) := by decide +kernel
theorem dX6_waste_5 : decode cX6_waste 5 = .ok (.aload_n 0, 1) := by decide +kernel
theorem dX6_waste_6 : decode cX6_waste 6 = .ok (.getfield 33, 3) := by decide +kernel
theorem dX6_waste_9 : decode cX6_waste 9 = .ok (.getfield 210, 3) := by decide +kernel
theorem dX6_waste_12 : decode cX6_waste 12 = .ok (.if_icmp .lt 13, 3) := by decide +kernel
theorem dX6_waste_15 : decode cX6_waste 15 = .ok (.new 228, 3) := by decide +kernel
theorem dX6_waste_18 : decode cX6_waste 18 = .ok (.dup, 1) := by decide +kernel
theorem dX6_waste_19 : decode cX6_waste 19 = .ok (.ldc 230, 2) := by decide +kernel
theorem dX6_waste_21 : decode cX6_waste 21 = .ok (.invokespecial 232, 3) := by decide +kernel
theorem dX6_waste_24 : decode cX6_waste 24 = .ok (.athrow, 1) := by decide +kernel
theorem dX6_waste_25 : decode cX6_waste 25 = .ok (.aload_n 0, 1) := by decide +kernel
theorem dX6_waste_26 : decode cX6_waste 26 = .ok (.invokevirtual 219, 3) := by decide +kernel
theorem dX6_waste_29 : decode cX6_waste 29 = .ok (.aload_n 0, 1) := by decide +kernel
theorem dX6_waste_30 : decode cX6_waste 30 = .ok (.getfield 33, 3) := by decide +kernel
theorem dX6_waste_33 : decode cX6_waste 33 = .ok (.iload_n 1, 1) := by decide +kernel
theorem dX6_waste_34 : decode cX6_waste 34 = .ok (.aload_n 0, 1) := by decide +kernel
theorem dX6_waste_35 : decode cX6_waste 35 = .ok (.getfield 12, 3) := by decide +kernel
theorem dX6_waste_38 : decode cX6_waste 38 = .ok (.getfield 93, 3) := by decide +kernel
theorem dX6_waste_41 : decode cX6_waste 41 = .ok (.invokevirtual 233, 3) := by decide +kernel
theorem dX6_waste_44 : decode cX6_waste 44 = .ok (.ireturn, 1) := by decide +kernel
theorem dX6_setProps_0 : decode cX6_setProps 0 = .ok (.iload_n 1, 1) := by decide +kernel
theorem dX6_setProps_1 : decode cX6_setProps 1 = .ok (.iconst 0, 1) := by decide +kernel
theorem dX6_setProps_2 : decode cX6_setProps 2 = .ok (.bipush 9, 2) := by decide +kernel
theorem dX6_setProps_4 : decode cX6_setProps 4 = .ok (.invokestatic 44, 3) := by decide +kernel
theorem dX6_setProps_7 : decode cX6_setProps 7 = .ok (.ifCond .ne 13, 3) := by decide +kernel
theorem dX6_setProps_10 : decode cX6_setProps 10 = .ok (.new 56, 3) := by decide +kernel
theorem dX6_setProps_13 : decode cX6_setProps 13 = .ok (.dup, 1) := by decide +kernel
theorem dX6_setProps_14 : decode cX6_setProps 14 = .ok (.ldc 236, 2) := by decide +kernel
theorem dX6_setProps_16 : decode cX6_setProps 16 = .ok (.invokespecial 60, 3) := by decide +kernel
theorem dX6_setProps_19 : decode cX6_setProps 19 = .ok (.athrow, 1) := by decide +kernel
theorem dX6_setProps_20 : decode cX6_setProps 20 = .ok (.aload_n 0, 1) := by decide +kernel
theorem dX6_setProps_21 : decode cX6_setProps 21 = .ok (.getfield 40, 3) := by decide +kernel
theorem dX6_setProps_24 : decode cX6_setProps 24 = .ok (.getfield 238, 3) := by decide +kernel
theorem dX6_setProps_27 : decode cX6_setProps 27 = .ok (.istore_n 2, 1) := by decide +kernel
theorem dX6_setProps_28 : decode cX6_setProps 28 = .ok (.aload_n 0, 1) := by decide +kernel
theorem dX6_setProps_29 : decode cX6_setProps 29 = .ok (.getfield 40, 3) := by decide +kernel
theorem dX6_setProps_32 : decode cX6_setProps 32 = .ok (.iload_n 1, 1) := by decide +kernel
theorem dX6_setProps_33 : decode cX6_setProps 33 = .ok (.putfield 238, 3) := by decide +kernel
theorem dX6_setProps_36 : decode cX6_setProps 36 = .ok (.aload_n 0, 1) := by decide +kernel
theorem dX6_setProps_37 : decode cX6_setProps 37 = .ok (.getfield 40, 3) := by decide +kernel
theorem dX6_setProps_40 : decode cX6_setProps 40 = .ok (.iconst 0, 1) := by decide +kernel
theorem dX6_setProps_41 : decode cX6_setProps 41 = .ok (.putfield 99, 3) := by decide +kernel
theorem dX6_setProps_44 : decode cX6_setProps 44 = .ok (.iload_n 2, 1) := by decide +kernel
theorem dX6_setProps_45 : decode cX6_setProps 45 = .ok (.ireturn, 1) := by decide +kernel
theorem dX6_raised_0 : decode cX6_raised 0 = .ok (.aload_n 0, 1) := by decide +kernel
theorem dX6_raised_1 : decode cX6_raised 1 = .ok (.iload_n 1, 1) := by decide +kernel
theorem dX6_raised_2 : decode cX6_raised 2 = .ok (.invokevirtual 241, 3) := by decide +kernel
theorem dX6_raised_5 : decode cX6_raised 5 = .ok (.aload_n 0, 1) := by decide +kernel
theorem dX6_raised_6 : decode cX6_raised 6 = .ok (.getfield 40, 3) := by decide +kernel
theorem dX6_raised_9 : decode cX6_raised 9 = .ok (.getfield 244, 3) := by decide +kernel
theorem dX6_raised_12 : decode cX6_raised 12 = .ok (.iload_n 1, 1) := by decide +kernel
theorem dX6_raised_13 : decode cX6_raised 13 = .ok (.iaload, 1) := by decide +kernel
theorem dX6_raised_14 : decode cX6_raised 14 = .ok (.ireturn, 1) := by decide +kernel
theorem dX6_canRaise_0 : decode cX6_canRaise 0 = .ok (.aload_n 0, 1) := by decide +kernel
theorem dX6_canRaise_1 : decode cX6_canRaise 1 = .ok (.getfield 40, 3) := by decide +kernel
theorem dX6_canRaise_4 : decode cX6_canRaise 4 = .ok (.aload_n 0, 1) := by decide +kernel
theorem dX6_canRaise_5 : decode cX6_canRaise 5 = .ok (.getfield 12, 3) := by decide +kernel
theorem dX6_canRaise_8 : decode cX6_canRaise 8 = .ok (.aload_n 0, 1) := by decide +kernel
theorem dX6_canRaise_9 : decode cX6_canRaise 9 = .ok (.getfield 26, 3) := by decide +kernel
theorem dX6_canRaise_12 : decode cX6_canRaise 12 = .ok (.invokevirtual 247, 3) := by decide +kernel
theorem dX6_canRaise_15 : decode cX6_canRaise 15 = .ok (.aload_n 0, 1) := by decide +kernel
theorem dX6_canRaise_16 : decode cX6_canRaise 16 = .ok (.getfield 40, 3) := by decide +kernel
theorem dX6_canRaise_19 : decode cX6_canRaise 19 = .ok (.invokevirtual 250, 3) := by decide +kernel
theorem dX6_canRaise_22 : decode cX6_canRaise 22 = .ok (.ifCond .le 7, 3) := by decide +kernel
theorem dX6_canRaise_25 : decode cX6_canRaise 25 = .ok (.iconst 1, 1) := by decide +kernel
theorem dX6_canRaise_26 : decode cX6_canRaise 26 = .ok (.goto 4, 3) := by decide +kernel
theorem dX6_canRaise_29 : decode cX6_canRaise 29 = .ok (.iconst 0, 1) := by decide +kernel
theorem dX6_canRaise_30 : decode cX6_canRaise 30 = .ok (.ireturn, 1) := by decide +kernel
theorem dX6_canTakeAway_0 : decode cX6_canTakeAway 0 = .ok (.aload_n 0, 1) := by decide +kernel
theorem dX6_canTakeAway_1 : decode cX6_canTakeAway 1 = .ok (.getfield 40, 3) := by decide +kernel
theorem dX6_canTakeAway_4 : decode cX6_canTakeAway 4 = .ok (.aload_n 0, 1) := by decide +kernel
theorem dX6_canTakeAway_5 : decode cX6_canTakeAway 5 = .ok (.getfield 12, 3) := by decide +kernel
theorem dX6_canTakeAway_8 : decode cX6_canTakeAway 8 = .ok (.aload_n 0, 1) := by decide +kernel
theorem dX6_canTakeAway_9 : decode cX6_canTakeAway 9 = .ok (.getfield 26, 3) := by decide +kernel
theorem dX6_canTakeAway_12 : decode cX6_canTakeAway 12 = .ok (.invokevirtual 247, 3) := by decide +kernel
theorem dX6_canTakeAway_15 : decode cX6_canTakeAway 15 = .ok (.aload_n 0, 1) := by decide +kernel
theorem dX6_canTakeAway_16 : decode cX6_canTakeAway 16 = .ok (.getfield 40, 3) := by decide +kernel
theorem dX6_canTakeAway_19 : decode cX6_canTakeAway 19 = .ok (.getfield 254, 3) := by decide +kernel
theorem dX6_canTakeAway_22 : decode cX6_canTakeAway 22 = .ok (.iconst 0, 1) := by decide +kernel
theorem dX6_canTakeAway_23 : decode cX6_canTakeAway 23 = .ok (.baload, 1) := by decide +kernel
theorem dX6_canTakeAway_24 : decode cX6_canTakeAway 24 = .ok (.ireturn, 1) := by decide +kernel
theorem dX6_orders_0 : decode cX6_orders 0 = .ok (.aload_n 0, 1) := by decide +kernel
theorem dX6_orders_1 : decode cX6_orders 1 = .ok (.getfield 40, 3) := by decide +kernel
theorem dX6_orders_4 : decode cX6_orders 4 = .ok (.aload_n 0, 1) := by decide +kernel
theorem dX6_orders_5 : decode cX6_orders 5 = .ok (.getfield 12, 3) := by decide +kernel
theorem dX6_orders_8 : decode cX6_orders 8 = .ok (.aload_n 0, 1) := by decide +kernel
theorem dX6_orders_9 : decode cX6_orders 9 = .ok (.getfield 26, 3) := by decide +kernel
theorem dX6_orders_12 : decode cX6_orders 12 = .ok (.invokevirtual 247, 3) := by decide +kernel
theorem dX6_orders_15 : decode cX6_orders 15 = .ok (.aload_n 0, 1) := by decide +kernel
theorem dX6_orders_16 : decode cX6_orders 16 = .ok (.getfield 40, 3) := by decide +kernel
theorem dX6_orders_19 : decode cX6_orders 19 = .ok (.invokevirtual 250, 3) := by decide +kernel
theorem dX6_orders_22 : decode cX6_orders 22 = .ok (.ireturn, 1) := by decide +kernel
theorem dX6_props_0 : decode cX6_props 0 = .ok (.aload_n 0, 1) := by decide +kernel
theorem dX6_props_1 : decode cX6_props 1 = .ok (.iload_n 1, 1) := by decide +kernel
theorem dX6_props_2 : decode cX6_props 2 = .ok (.invokevirtual 241, 3) := by decide +kernel
theorem dX6_props_5 : decode cX6_props 5 = .ok (.iconst 0, 1) := by decide +kernel
theorem dX6_props_6 : decode cX6_props 6 = .ok (.istore_n 2, 1) := by decide +kernel
theorem dX6_props_7 : decode cX6_props 7 = .ok (.iconst 0, 1) := by decide +kernel
theorem dX6_props_8 : decode cX6_props 8 = .ok (.istore_n 3, 1) := by decide +kernel
theorem dX6_props_9 : decode cX6_props 9 = .ok (.iload_n 3, 1) := by decide +kernel
theorem dX6_props_10 : decode cX6_props 10 = .ok (.iload_n 1, 1) := by decide +kernel
theorem dX6_props_11 : decode cX6_props 11 = .ok (.if_icmp .gt 23, 3) := by decide +kernel
theorem dX6_props_14 : decode cX6_props 14 = .ok (.iload_n 2, 1) := by decide +kernel
theorem dX6_props_15 : decode cX6_props 15 = .ok (.iconst 1, 1) := by decide +kernel
theorem dX6_props_16 : decode cX6_props 16 = .ok (.aload_n 0, 1) := by decide +kernel
theorem dX6_props_17 : decode cX6_props 17 = .ok (.getfield 40, 3) := by decide +kernel
theorem dX6_props_20 : decode cX6_props 20 = .ok (.getfield 244, 3) := by decide +kernel
theorem dX6_props_23 : decode cX6_props 23 = .ok (.iload_n 3, 1) := by decide +kernel
theorem dX6_props_24 : decode cX6_props 24 = .ok (.iaload, 1) := by decide +kernel
theorem dX6_props_25 : decode cX6_props 25 = .ok (.ishl, 1) := by decide +kernel
theorem dX6_props_26 : decode cX6_props 26 = .ok (.ior, 1) := by decide +kernel
theorem dX6_props_27 : decode cX6_props 27 = .ok (.istore_n 2, 1) := by decide +kernel
theorem dX6_props_28 : decode cX6_props 28 = .ok (.iinc 3 1, 3) := by decide +kernel
theorem dX6_props_31 : decode cX6_props 31 = .ok (.goto (-22), 3) := by decide +kernel
theorem dX6_props_34 : decode cX6_props 34 = .ok (.aload_n 0, 1) := by decide +kernel
theorem dX6_props_35 : decode cX6_props 35 = .ok (.getfield 40, 3) := by decide +kernel
theorem dX6_props_38 : decode cX6_props 38 = .ok (.iload_n 2, 1) := by decide +kernel
theorem dX6_props_39 : decode cX6_props 39 = .ok (.invokevirtual 258, 3) := by decide +kernel
theorem dX6_props_42 : decode cX6_props 42 = .ok (.ireturn, 1) := by decide +kernel
theorem dX6_stuck_0 : decode cX6_stuck 0 = .ok (.aload_n 0, 1) := by decide +kernel
theorem dX6_stuck_1 : decode cX6_stuck 1 = .ok (.getfield 40, 3) := by decide +kernel
theorem dX6_stuck_4 : decode cX6_stuck 4 = .ok (.aload_n 0, 1) := by decide +kernel
theorem dX6_stuck_5 : decode cX6_stuck 5 = .ok (.getfield 12, 3) := by decide +kernel
theorem dX6_stuck_8 : decode cX6_stuck 8 = .ok (.aload_n 0, 1) := by decide +kernel
theorem dX6_stuck_9 : decode cX6_stuck 9 = .ok (.getfield 26, 3) := by decide +kernel
theorem dX6_stuck_12 : decode cX6_stuck 12 = .ok (.invokevirtual 247, 3) := by decide +kernel
theorem dX6_stuck_15 : decode cX6_stuck 15 = .ok (.aload_n 0, 1) := by decide +kernel
theorem dX6_stuck_16 : decode cX6_stuck 16 = .ok (.getfield 40, 3) := by decide +kernel
theorem dX6_stuck_19 : decode cX6_stuck 19 = .ok (.invokevirtual 261, 3) := by decide +kernel
theorem dX6_stuck_22 : decode cX6_stuck 22 = .ok (.istore_n 1, 1) := by decide +kernel
theorem dX6_stuck_23 : decode cX6_stuck 23 = .ok (.iload_n 1, 1) := by decide +kernel
theorem dX6_stuck_24 : decode cX6_stuck 24 = .ok (.ifCond .ge 14, 3) := by decide +kernel
theorem dX6_stuck_27 : decode cX6_stuck 27 = .ok (.new 142, 3) := by decide +kernel
theorem dX6_stuck_30 : decode cX6_stuck 30 = .ok (.dup, 1) := by decide +kernel
theorem dX6_stuck_31 : decode cX6_stuck 31 = .ok (.ldc_w 264, 3) := by decide +kernel
theorem dX6_stuck_34 : decode cX6_stuck 34 = .ok (.invokespecial 146, 3) := by decide +kernel
theorem dX6_stuck_37 : decode cX6_stuck 37 = .ok (.athrow, 1) := by decide +kernel
theorem dX6_stuck_38 : decode cX6_stuck 38 = .ok (.iload_n 1, 1) := by decide +kernel
theorem dX6_stuck_39 : decode cX6_stuck 39 = .ok (.ireturn, 1) := by decide +kernel
theorem dX6_allForce_0 : decode cX6_allForce 0 = .ok (.aload_n 0, 1) := by decide +kernel
theorem dX6_allForce_1 : decode cX6_allForce 1 = .ok (.invokevirtual 121, 3) := by decide +kernel
theorem dX6_allForce_4 : decode cX6_allForce 4 = .ok (.lconst 0, 1) := by decide +kernel
theorem dX6_allForce_5 : decode cX6_allForce 5 = .ok (.lstore_n 1, 1) := by decide +kernel
theorem dX6_allForce_6 : decode cX6_allForce 6 = .ok (.iconst 0, 1) := by decide +kernel
theorem dX6_allForce_7 : decode cX6_allForce 7 = .ok (.istore_n 3, 1) := by decide +kernel
theorem dX6_allForce_8 : decode cX6_allForce 8 = .ok (.iload_n 3, 1) := by decide +kernel
theorem dX6_allForce_9 : decode cX6_allForce 9 = .ok (.aload_n 0, 1) := by decide +kernel
theorem dX6_allForce_10 : decode cX6_allForce 10 = .ok (.getfield 12, 3) := by decide +kernel
theorem dX6_allForce_13 : decode cX6_allForce 13 = .ok (.getfield 93, 3) := by decide +kernel
theorem dX6_allForce_16 : decode cX6_allForce 16 = .ok (.if_icmp .ge 24, 3) := by decide +kernel
theorem dX6_allForce_19 : decode cX6_allForce 19 = .ok (.lload_n 1, 1) := by decide +kernel
theorem dX6_allForce_20 : decode cX6_allForce 20 = .ok (.aload_n 0, 1) := by decide +kernel
theorem dX6_allForce_21 : decode cX6_allForce 21 = .ok (.getfield 19, 3) := by decide +kernel
theorem dX6_allForce_24 : decode cX6_allForce 24 = .ok (.getfield 124, 3) := by decide +kernel
theorem dX6_allForce_27 : decode cX6_allForce 27 = .ok (.iload_n 3, 1) := by decide +kernel
theorem dX6_allForce_28 : decode cX6_allForce 28 = .ok (.laload, 1) := by decide +kernel
theorem dX6_allForce_29 : decode cX6_allForce 29 = .ok (.invokestatic 147, 3) := by decide +kernel
theorem dX6_allForce_32 : decode cX6_allForce 32 = .ok (.ladd, 1) := by decide +kernel
theorem dX6_allForce_33 : decode cX6_allForce 33 = .ok (.lstore_n 1, 1) := by decide +kernel
theorem dX6_allForce_34 : decode cX6_allForce 34 = .ok (.iinc 3 1, 3) := by decide +kernel
theorem dX6_allForce_37 : decode cX6_allForce 37 = .ok (.goto (-29), 3) := by decide +kernel
theorem dX6_allForce_40 : decode cX6_allForce 40 = .ok (.lload_n 1, 1) := by decide +kernel
theorem dX6_allForce_41 : decode cX6_allForce 41 = .ok (.lreturn, 1) := by decide +kernel
theorem dX6_rightShare_0 : decode cX6_rightShare 0 = .ok (.aload_n 0, 1) := by decide +kernel
theorem dX6_rightShare_1 : decode cX6_rightShare 1 = .ok (.getfield 26, 3) := by decide +kernel
theorem dX6_rightShare_4 : decode cX6_rightShare 4 = .ok (.getfield 170, 3) := by decide +kernel
theorem dX6_rightShare_7 : decode cX6_rightShare 7 = .ok (.ifCond .ne 13, 3) := by decide +kernel
theorem dX6_rightShare_10 : decode cX6_rightShare 10 = .ok (.new 266, 3) := by decide +kernel
theorem dX6_rightShare_13 : decode cX6_rightShare 13 = .ok (.dup, 1) := by decide +kernel
theorem dX6_rightShare_14 : decode cX6_rightShare 14 = .ok (.ldc 206, 2) := by decide +kernel
theorem dX6_rightShare_16 : decode cX6_rightShare 16 = .ok (.invokespecial 268, 3) := by decide +kernel
theorem dX6_rightShare_19 : decode cX6_rightShare 19 = .ok (.athrow, 1) := by decide +kernel
theorem dX6_rightShare_20 : decode cX6_rightShare 20 = .ok (.iconst 0, 1) := by decide +kernel
theorem dX6_rightShare_21 : decode cX6_rightShare 21 = .ok (.istore_n 1, 1) := by decide +kernel
theorem dX6_rightShare_22 : decode cX6_rightShare 22 = .ok (.iconst 0, 1) := by decide +kernel
theorem dX6_rightShare_23 : decode cX6_rightShare 23 = .ok (.istore_n 2, 1) := by decide +kernel
theorem dX6_rightShare_24 : decode cX6_rightShare 24 = .ok (.iload_n 2, 1) := by decide +kernel
theorem dX6_rightShare_25 : decode cX6_rightShare 25 = .ok (.aload_n 0, 1) := by decide +kernel
theorem dX6_rightShare_26 : decode cX6_rightShare 26 = .ok (.getfield 26, 3) := by decide +kernel
theorem dX6_rightShare_29 : decode cX6_rightShare 29 = .ok (.getfield 170, 3) := by decide +kernel
theorem dX6_rightShare_32 : decode cX6_rightShare 32 = .ok (.if_icmp .ge 32, 3) := by decide +kernel
theorem dX6_rightShare_35 : decode cX6_rightShare 35 = .ok (.iload_n 1, 1) := by decide +kernel
theorem dX6_rightShare_36 : decode cX6_rightShare 36 = .ok (.aload_n 0, 1) := by decide +kernel
theorem dX6_rightShare_37 : decode cX6_rightShare 37 = .ok (.getfield 26, 3) := by decide +kernel
theorem dX6_rightShare_40 : decode cX6_rightShare 40 = .ok (.iload_n 2, 1) := by decide +kernel
theorem dX6_rightShare_41 : decode cX6_rightShare 41 = .ok (.aload_n 0, 1) := by decide +kernel
theorem dX6_rightShare_42 : decode cX6_rightShare 42 = .ok (.getfield 12, 3) := by decide +kernel
theorem dX6_rightShare_45 : decode cX6_rightShare 45 = .ok (.invokevirtual 182, 3) := by decide +kernel
theorem dX6_rightShare_48 : decode cX6_rightShare 48 = .ok (.ifCond .eq 7, 3) := by decide +kernel
theorem dX6_rightShare_51 : decode cX6_rightShare 51 = .ok (.iconst 1, 1) := by decide +kernel
theorem dX6_rightShare_52 : decode cX6_rightShare 52 = .ok (.goto 4, 3) := by decide +kernel
theorem dX6_rightShare_55 : decode cX6_rightShare 55 = .ok (.iconst 0, 1) := by decide +kernel
theorem dX6_rightShare_56 : decode cX6_rightShare 56 = .ok (.iadd, 1) := by decide +kernel
theorem dX6_rightShare_57 : decode cX6_rightShare 57 = .ok (.istore_n 1, 1) := by decide +kernel
theorem dX6_rightShare_58 : decode cX6_rightShare 58 = .ok (.iinc 2 1, 3) := by decide +kernel
theorem dX6_rightShare_61 : decode cX6_rightShare 61 = .ok (.goto (-37), 3) := by decide +kernel
theorem dX6_rightShare_64 : decode cX6_rightShare 64 = .ok (.iload_n 1, 1) := by decide +kernel
theorem dX6_rightShare_65 : decode cX6_rightShare 65 = .ok (.i2f, 1) := by decide +kernel
theorem dX6_rightShare_66 : decode cX6_rightShare 66 = .ok (.aload_n 0, 1) := by decide +kernel
theorem dX6_rightShare_67 : decode cX6_rightShare 67 = .ok (.getfield 26, 3) := by decide +kernel
theorem dX6_rightShare_70 : decode cX6_rightShare 70 = .ok (.getfield 170, 3) := by decide +kernel
theorem dX6_rightShare_73 : decode cX6_rightShare 73 = .ok (.i2f, 1) := by decide +kernel
theorem dX6_rightShare_74 : decode cX6_rightShare 74 = .ok (.fdiv, 1) := by decide +kernel
theorem dX6_rightShare_75 : decode cX6_rightShare 75 = .ok (.freturn, 1) := by decide +kernel
theorem dX6_meanPull_0 : decode cX6_meanPull 0 = .ok (.aload_n 0, 1) := by decide +kernel
theorem dX6_meanPull_1 : decode cX6_meanPull 1 = .ok (.invokevirtual 121, 3) := by decide +kernel
theorem dX6_meanPull_4 : decode cX6_meanPull 4 = .ok (.aload_n 0, 1) := by decide +kernel
theorem dX6_meanPull_5 : decode cX6_meanPull 5 = .ok (.getfield 12, 3) := by decide +kernel
theorem dX6_meanPull_8 : decode cX6_meanPull 8 = .ok (.getfield 93, 3) := by decide +kernel
theorem dX6_meanPull_11 : decode cX6_meanPull 11 = .ok (.ifCond .ne 13, 3) := by decide +kernel
theorem dX6_meanPull_14 : decode cX6_meanPull 14 = .ok (.new 266, 3) := by decide +kernel
theorem dX6_meanPull_17 : decode cX6_meanPull 17 = .ok (.dup, 1) := by decide +kernel
theorem dX6_meanPull_18 : decode cX6_meanPull 18 = .ok (.ldc 144, 2) := by decide +kernel
theorem dX6_meanPull_20 : decode cX6_meanPull 20 = .ok (.invokespecial 268, 3) := by decide +kernel
theorem dX6_meanPull_23 : decode cX6_meanPull 23 = .ok (.athrow, 1) := by decide +kernel
theorem dX6_meanPull_24 : decode cX6_meanPull 24 = .ok (.aload_n 0, 1) := by decide +kernel
theorem dX6_meanPull_25 : decode cX6_meanPull 25 = .ok (.getfield 19, 3) := by decide +kernel
theorem dX6_meanPull_28 : decode cX6_meanPull 28 = .ok (.aload_n 0, 1) := by decide +kernel
theorem dX6_meanPull_29 : decode cX6_meanPull 29 = .ok (.getfield 12, 3) := by decide +kernel
theorem dX6_meanPull_32 : decode cX6_meanPull 32 = .ok (.getfield 93, 3) := by decide +kernel
theorem dX6_meanPull_35 : decode cX6_meanPull 35 = .ok (.invokevirtual 269, 3) := by decide +kernel
theorem dX6_meanPull_38 : decode cX6_meanPull 38 = .ok (.aload_n 0, 1) := by decide +kernel
theorem dX6_meanPull_39 : decode cX6_meanPull 39 = .ok (.getfield 12, 3) := by decide +kernel
theorem dX6_meanPull_42 : decode cX6_meanPull 42 = .ok (.getfield 93, 3) := by decide +kernel
theorem dX6_meanPull_45 : decode cX6_meanPull 45 = .ok (.i2d, 1) := by decide +kernel
theorem dX6_meanPull_46 : decode cX6_meanPull 46 = .ok (.ddiv, 1) := by decide +kernel
theorem dX6_meanPull_47 : decode cX6_meanPull 47 = .ok (.dreturn, 1) := by decide +kernel
theorem dX6_isSound_0 : decode cX6_isSound 0 = .ok (.aload_n 0, 1) := by decide +kernel
theorem dX6_isSound_1 : decode cX6_isSound 1 = .ok (.getfield 19, 3) := by decide +kernel
theorem dX6_isSound_4 : decode cX6_isSound 4 = .ok (.aload_n 0, 1) := by decide +kernel
theorem dX6_isSound_5 : decode cX6_isSound 5 = .ok (.getfield 12, 3) := by decide +kernel
theorem dX6_isSound_8 : decode cX6_isSound 8 = .ok (.invokevirtual 110, 3) := by decide +kernel
theorem dX6_isSound_11 : decode cX6_isSound 11 = .ok (.aload_n 0, 1) := by decide +kernel
theorem dX6_isSound_12 : decode cX6_isSound 12 = .ok (.getfield 19, 3) := by decide +kernel
theorem dX6_isSound_15 : decode cX6_isSound 15 = .ok (.getfield 114, 3) := by decide +kernel
theorem dX6_isSound_18 : decode cX6_isSound 18 = .ok (.bipush 46, 2) := by decide +kernel
theorem dX6_isSound_20 : decode cX6_isSound 20 = .ok (.if_icmp .ne 34, 3) := by decide +kernel
theorem dX6_isSound_23 : decode cX6_isSound 23 = .ok (.iconst 0, 1) := by decide +kernel
theorem dX6_isSound_24 : decode cX6_isSound 24 = .ok (.istore_n 1, 1) := by decide +kernel
theorem dX6_isSound_25 : decode cX6_isSound 25 = .ok (.iload_n 1, 1) := by decide +kernel
theorem dX6_isSound_26 : decode cX6_isSound 26 = .ok (.bipush 30, 2) := by decide +kernel
theorem dX6_isSound_28 : decode cX6_isSound 28 = .ok (.if_icmp .gt 26, 3) := by decide +kernel
theorem dX6_isSound_31 : decode cX6_isSound 31 = .ok (.aload_n 0, 1) := by decide +kernel
theorem dX6_isSound_32 : decode cX6_isSound 32 = .ok (.getfield 19, 3) := by decide +kernel
theorem dX6_isSound_35 : decode cX6_isSound 35 = .ok (.aload_n 0, 1) := by decide +kernel
theorem dX6_isSound_36 : decode cX6_isSound 36 = .ok (.getfield 12, 3) := by decide +kernel
theorem dX6_isSound_39 : decode cX6_isSound 39 = .ok (.iload_n 1, 1) := by decide +kernel
theorem dX6_isSound_40 : decode cX6_isSound 40 = .ok (.invokevirtual 138, 3) := by decide +kernel
theorem dX6_isSound_43 : decode cX6_isSound 43 = .ok (.ifCond .ne 5, 3) := by decide +kernel
theorem dX6_isSound_46 : decode cX6_isSound 46 = .ok (.iconst 0, 1) := by decide +kernel
theorem dX6_isSound_47 : decode cX6_isSound 47 = .ok (.ireturn, 1) := by decide +kernel
theorem dX6_isSound_48 : decode cX6_isSound 48 = .ok (.iinc 1 1, 3) := by decide +kernel
theorem dX6_isSound_51 : decode cX6_isSound 51 = .ok (.goto (-26), 3) := by decide +kernel
theorem dX6_isSound_54 : decode cX6_isSound 54 = .ok (.aload_n 0, 1) := by decide +kernel
theorem dX6_isSound_55 : decode cX6_isSound 55 = .ok (.invokevirtual 273, 3) := by decide +kernel
theorem dX6_isSound_58 : decode cX6_isSound 58 = .ok (.aload_n 0, 1) := by decide +kernel
theorem dX6_isSound_59 : decode cX6_isSound 59 = .ok (.invokevirtual 277, 3) := by decide +kernel
theorem dX6_isSound_62 : decode cX6_isSound 62 = .ok (.if_icmp .ne 7, 3) := by decide +kernel
theorem dX6_isSound_65 : decode cX6_isSound 65 = .ok (.iconst 1, 1) := by decide +kernel
theorem dX6_isSound_66 : decode cX6_isSound 66 = .ok (.goto 4, 3) := by decide +kernel
theorem dX6_isSound_69 : decode cX6_isSound 69 = .ok (.iconst 0, 1) := by decide +kernel
theorem dX6_isSound_70 : decode cX6_isSound 70 = .ok (.ireturn, 1) := by decide +kernel
theorem dX6_isWithin_0 : decode cX6_isWithin 0 = .ok (.iload_n 0, 1) := by decide +kernel
theorem dX6_isWithin_1 : decode cX6_isWithin 1 = .ok (.iload_n 1, 1) := by decide +kernel
theorem dX6_isWithin_2 : decode cX6_isWithin 2 = .ok (.if_icmp .lt 12, 3) := by decide +kernel
theorem dX6_isWithin_5 : decode cX6_isWithin 5 = .ok (.iload_n 0, 1) := by decide +kernel
theorem dX6_isWithin_6 : decode cX6_isWithin 6 = .ok (.iload_n 2, 1) := by decide +kernel
theorem dX6_isWithin_7 : decode cX6_isWithin 7 = .ok (.if_icmp .gt 7, 3) := by decide +kernel
theorem dX6_isWithin_10 : decode cX6_isWithin 10 = .ok (.iconst 1, 1) := by decide +kernel
theorem dX6_isWithin_11 : decode cX6_isWithin 11 = .ok (.goto 4, 3) := by decide +kernel
theorem dX6_isWithin_14 : decode cX6_isWithin 14 = .ok (.iconst 0, 1) := by decide +kernel
theorem dX6_isWithin_15 : decode cX6_isWithin 15 = .ok (.ireturn, 1) := by decide +kernel
theorem dX6_isSection_0 : decode cX6_isSection 0 = .ok (.iload_n 0, 1) := by decide +kernel
theorem dX6_isSection_1 : decode cX6_isSection 1 = .ok (.bipush 6, 2) := by decide +kernel
theorem dX6_isSection_3 : decode cX6_isSection 3 = .ok (.bipush 40, 2) := by decide +kernel
theorem dX6_isSection_5 : decode cX6_isSection 5 = .ok (.invokestatic 44, 3) := by decide +kernel
theorem dX6_isSection_8 : decode cX6_isSection 8 = .ok (.ifCond .eq 16, 3) := by decide +kernel
theorem dX6_isSection_11 : decode cX6_isSection 11 = .ok (.iload_n 1, 1) := by decide +kernel
theorem dX6_isSection_12 : decode cX6_isSection 12 = .ok (.iconst 0, 1) := by decide +kernel
theorem dX6_isSection_13 : decode cX6_isSection 13 = .ok (.iconst 3, 1) := by decide +kernel
theorem dX6_isSection_14 : decode cX6_isSection 14 = .ok (.invokestatic 44, 3) := by decide +kernel
theorem dX6_isSection_17 : decode cX6_isSection 17 = .ok (.ifCond .eq 7, 3) := by decide +kernel
theorem dX6_isSection_20 : decode cX6_isSection 20 = .ok (.iconst 1, 1) := by decide +kernel
theorem dX6_isSection_21 : decode cX6_isSection 21 = .ok (.goto 4, 3) := by decide +kernel
theorem dX6_isSection_24 : decode cX6_isSection 24 = .ok (.iconst 0, 1) := by decide +kernel
theorem dX6_isSection_25 : decode cX6_isSection 25 = .ok (.ireturn, 1) := by decide +kernel
theorem dX6_checkNode_0 : decode cX6_checkNode 0 = .ok (.iload_n 1, 1) := by decide +kernel
theorem dX6_checkNode_1 : decode cX6_checkNode 1 = .ok (.ifCond .lt 14, 3) := by decide +kernel
theorem dX6_checkNode_4 : decode cX6_checkNode 4 = .ok (.iload_n 1, 1) := by decide +kernel
theorem dX6_checkNode_5 : decode cX6_checkNode 5 = .ok (.aload_n 0, 1) := by decide +kernel
theorem dX6_checkNode_6 : decode cX6_checkNode 6 = .ok (.getfield 12, 3) := by decide +kernel
theorem dX6_checkNode_9 : decode cX6_checkNode 9 = .ok (.getfield 63, 3) := by decide +kernel
theorem dX6_checkNode_12 : decode cX6_checkNode 12 = .ok (.if_icmp .lt 14, 3) := by decide +kernel
theorem dX6_checkNode_15 : decode cX6_checkNode 15 = .ok (.new 228, 3) := by decide +kernel
theorem dX6_checkNode_18 : decode cX6_checkNode 18 = .ok (.dup, 1) := by decide +kernel
theorem dX6_checkNode_19 : decode cX6_checkNode 19 = .ok (.ldc_w 280, 3) := by decide +kernel
theorem dX6_checkNode_22 : decode cX6_checkNode 22 = .ok (.invokespecial 232, 3) := by decide +kernel
theorem dX6_checkNode_25 : decode cX6_checkNode 25 = .ok (.athrow, 1) := by decide +kernel
theorem dX6_checkNode_26 : decode cX6_checkNode 26 = .ok (.return_, 1) := by decide +kernel
theorem dX6_checkMember_0 : decode cX6_checkMember 0 = .ok (.iload_n 1, 1) := by decide +kernel
theorem dX6_checkMember_1 : decode cX6_checkMember 1 = .ok (.ifCond .lt 14, 3) := by decide +kernel
theorem dX6_checkMember_4 : decode cX6_checkMember 4 = .ok (.iload_n 1, 1) := by decide +kernel
theorem dX6_checkMember_5 : decode cX6_checkMember 5 = .ok (.aload_n 0, 1) := by decide +kernel
theorem dX6_checkMember_6 : decode cX6_checkMember 6 = .ok (.getfield 12, 3) := by decide +kernel
theorem dX6_checkMember_9 : decode cX6_checkMember 9 = .ok (.getfield 93, 3) := by decide +kernel
theorem dX6_checkMember_12 : decode cX6_checkMember 12 = .ok (.if_icmp .lt 14, 3) := by decide +kernel
theorem dX6_checkMember_15 : decode cX6_checkMember 15 = .ok (.new 228, 3) := by decide +kernel
theorem dX6_checkMember_18 : decode cX6_checkMember 18 = .ok (.dup, 1) := by decide +kernel
theorem dX6_checkMember_19 : decode cX6_checkMember 19 = .ok (.ldc_w 282, 3) := by decide +kernel
theorem dX6_checkMember_22 : decode cX6_checkMember 22 = .ok (.invokespecial 232, 3) := by decide +kernel
theorem dX6_checkMember_25 : decode cX6_checkMember 25 = .ok (.athrow, 1) := by decide +kernel
theorem dX6_checkMember_26 : decode cX6_checkMember 26 = .ok (.return_, 1) := by decide +kernel
theorem dX6_checkJoint_0 : decode cX6_checkJoint 0 = .ok (.iload_n 1, 1) := by decide +kernel
theorem dX6_checkJoint_1 : decode cX6_checkJoint 1 = .ok (.ifCond .lt 14, 3) := by decide +kernel
theorem dX6_checkJoint_4 : decode cX6_checkJoint 4 = .ok (.iload_n 1, 1) := by decide +kernel
theorem dX6_checkJoint_5 : decode cX6_checkJoint 5 = .ok (.aload_n 0, 1) := by decide +kernel
theorem dX6_checkJoint_6 : decode cX6_checkJoint 6 = .ok (.getfield 26, 3) := by decide +kernel
theorem dX6_checkJoint_9 : decode cX6_checkJoint 9 = .ok (.getfield 170, 3) := by decide +kernel
theorem dX6_checkJoint_12 : decode cX6_checkJoint 12 = .ok (.if_icmp .lt 14, 3) := by decide +kernel
theorem dX6_checkJoint_15 : decode cX6_checkJoint 15 = .ok (.new 228, 3) := by decide +kernel
theorem dX6_checkJoint_18 : decode cX6_checkJoint 18 = .ok (.dup, 1) := by decide +kernel
theorem dX6_checkJoint_19 : decode cX6_checkJoint 19 = .ok (.ldc_w 284, 3) := by decide +kernel
theorem dX6_checkJoint_22 : decode cX6_checkJoint 22 = .ok (.invokespecial 232, 3) := by decide +kernel
theorem dX6_checkJoint_25 : decode cX6_checkJoint 25 = .ok (.athrow, 1) := by decide +kernel
theorem dX6_checkJoint_26 : decode cX6_checkJoint 26 = .ok (.return_, 1) := by decide +kernel
theorem dX6_checkMoisture_0 : decode cX6_checkMoisture 0 = .ok (.iload_n 1, 1) := by decide +kernel
theorem dX6_checkMoisture_1 : decode cX6_checkMoisture 1 = .ok (.bipush 10, 2) := by decide +kernel
theorem dX6_checkMoisture_3 : decode cX6_checkMoisture 3 = .ok (.bipush 60, 2) := by decide +kernel
theorem dX6_checkMoisture_5 : decode cX6_checkMoisture 5 = .ok (.invokestatic 44, 3) := by decide +kernel
theorem dX6_checkMoisture_8 : decode cX6_checkMoisture 8 = .ok (.ifCond .ne 14, 3) := by decide +kernel
theorem dX6_checkMoisture_11 : decode cX6_checkMoisture 11 = .ok (.new 56, 3) := by decide +kernel
theorem dX6_checkMoisture_14 : decode cX6_checkMoisture 14 = .ok (.dup, 1) := by decide +kernel
theorem dX6_checkMoisture_15 : decode cX6_checkMoisture 15 = .ok (.ldc_w 286, 3) := by decide +kernel
theorem dX6_checkMoisture_18 : decode cX6_checkMoisture 18 = .ok (.invokespecial 60, 3) := by decide +kernel
theorem dX6_checkMoisture_21 : decode cX6_checkMoisture 21 = .ok (.athrow, 1) := by decide +kernel
theorem dX6_checkMoisture_22 : decode cX6_checkMoisture 22 = .ok (.return_, 1) := by decide +kernel
theorem dX6_checkStanding_0 : decode cX6_checkStanding 0 = .ok (.aload_n 0, 1) := by decide +kernel
theorem dX6_checkStanding_1 : decode cX6_checkStanding 1 = .ok (.getfield 19, 3) := by decide +kernel
theorem dX6_checkStanding_4 : decode cX6_checkStanding 4 = .ok (.aload_n 0, 1) := by decide +kernel
theorem dX6_checkStanding_5 : decode cX6_checkStanding 5 = .ok (.getfield 12, 3) := by decide +kernel
theorem dX6_checkStanding_8 : decode cX6_checkStanding 8 = .ok (.invokevirtual 110, 3) := by decide +kernel
theorem dX6_checkStanding_11 : decode cX6_checkStanding 11 = .ok (.aload_n 0, 1) := by decide +kernel
theorem dX6_checkStanding_12 : decode cX6_checkStanding 12 = .ok (.getfield 19, 3) := by decide +kernel
theorem dX6_checkStanding_15 : decode cX6_checkStanding 15 = .ok (.getfield 114, 3) := by decide +kernel
theorem dX6_checkStanding_18 : decode cX6_checkStanding 18 = .ok (.bipush 46, 2) := by decide +kernel
theorem dX6_checkStanding_20 : decode cX6_checkStanding 20 = .ok (.if_icmp .eq 14, 3) := by decide +kernel
theorem dX6_checkStanding_23 : decode cX6_checkStanding 23 = .ok (.new 67, 3) := by decide +kernel
theorem dX6_checkStanding_26 : decode cX6_checkStanding 26 = .ok (.dup, 1) := by decide +kernel
theorem dX6_checkStanding_27 : decode cX6_checkStanding 27 = .ok (.ldc_w 288, 3) := by decide +kernel
theorem dX6_checkStanding_30 : decode cX6_checkStanding 30 = .ok (.invokespecial 71, 3) := by decide +kernel
theorem dX6_checkStanding_33 : decode cX6_checkStanding 33 = .ok (.athrow, 1) := by decide +kernel
theorem dX6_checkStanding_34 : decode cX6_checkStanding 34 = .ok (.return_, 1) := by decide +kernel
theorem dX6_checkCut_0 : decode cX6_checkCut 0 = .ok (.aload_n 0, 1) := by decide +kernel
theorem dX6_checkCut_1 : decode cX6_checkCut 1 = .ok (.getfield 33, 3) := by decide +kernel
theorem dX6_checkCut_4 : decode cX6_checkCut 4 = .ok (.aload_n 0, 1) := by decide +kernel
theorem dX6_checkCut_5 : decode cX6_checkCut 5 = .ok (.getfield 12, 3) := by decide +kernel
theorem dX6_checkCut_8 : decode cX6_checkCut 8 = .ok (.aload_n 0, 1) := by decide +kernel
theorem dX6_checkCut_9 : decode cX6_checkCut 9 = .ok (.getfield 26, 3) := by decide +kernel
theorem dX6_checkCut_12 : decode cX6_checkCut 12 = .ok (.invokevirtual 290, 3) := by decide +kernel
theorem dX6_checkCut_15 : decode cX6_checkCut 15 = .ok (.aload_n 0, 1) := by decide +kernel
theorem dX6_checkCut_16 : decode cX6_checkCut 16 = .ok (.getfield 33, 3) := by decide +kernel
theorem dX6_checkCut_19 : decode cX6_checkCut 19 = .ok (.getfield 291, 3) := by decide +kernel
theorem dX6_checkCut_22 : decode cX6_checkCut 22 = .ok (.ifCond .ne 14, 3) := by decide +kernel
theorem dX6_checkCut_25 : decode cX6_checkCut 25 = .ok (.new 142, 3) := by decide +kernel
theorem dX6_checkCut_28 : decode cX6_checkCut 28 = .ok (.dup, 1) := by decide +kernel
theorem dX6_checkCut_29 : decode cX6_checkCut 29 = .ok (.ldc_w 294, 3) := by decide +kernel
theorem dX6_checkCut_32 : decode cX6_checkCut 32 = .ok (.invokespecial 146, 3) := by decide +kernel
theorem dX6_checkCut_35 : decode cX6_checkCut 35 = .ok (.athrow, 1) := by decide +kernel
theorem dX6_checkCut_36 : decode cX6_checkCut 36 = .ok (.return_, 1) := by decide +kernel
theorem dX6_checkPlaceInOrder_0 : decode cX6_checkPlaceInOrder 0 = .ok (.aload_n 0, 1) := by decide +kernel
theorem dX6_checkPlaceInOrder_1 : decode cX6_checkPlaceInOrder 1 = .ok (.getfield 40, 3) := by decide +kernel
theorem dX6_checkPlaceInOrder_4 : decode cX6_checkPlaceInOrder 4 = .ok (.aload_n 0, 1) := by decide +kernel
theorem dX6_checkPlaceInOrder_5 : decode cX6_checkPlaceInOrder 5 = .ok (.getfield 12, 3) := by decide +kernel
theorem dX6_checkPlaceInOrder_8 : decode cX6_checkPlaceInOrder 8 = .ok (.aload_n 0, 1) := by decide +kernel
theorem dX6_checkPlaceInOrder_9 : decode cX6_checkPlaceInOrder 9 = .ok (.getfield 26, 3) := by decide +kernel
theorem dX6_checkPlaceInOrder_12 : decode cX6_checkPlaceInOrder 12 = .ok (.invokevirtual 247, 3) := by decide +kernel
theorem dX6_checkPlaceInOrder_15 : decode cX6_checkPlaceInOrder 15 = .ok (.aload_n 0, 1) := by decide +kernel
theorem dX6_checkPlaceInOrder_16 : decode cX6_checkPlaceInOrder 16 = .ok (.getfield 40, 3) := by decide +kernel
theorem dX6_checkPlaceInOrder_19 : decode cX6_checkPlaceInOrder 19 = .ok (.invokevirtual 250, 3) := by decide +kernel
theorem dX6_checkPlaceInOrder_22 : decode cX6_checkPlaceInOrder 22 = .ok (.ifCond .ne 14, 3) := by decide +kernel
theorem dX6_checkPlaceInOrder_25 : decode cX6_checkPlaceInOrder 25 = .ok (.new 142, 3) := by decide +kernel
theorem dX6_checkPlaceInOrder_28 : decode cX6_checkPlaceInOrder 28 = .ok (.dup, 1) := by decide +kernel
theorem dX6_checkPlaceInOrder_29 : decode cX6_checkPlaceInOrder 29 = .ok (.ldc_w 296, 3) := by decide +kernel
theorem dX6_checkPlaceInOrder_32 : decode cX6_checkPlaceInOrder 32 = .ok (.invokespecial 146, 3) := by decide +kernel
theorem dX6_checkPlaceInOrder_35 : decode cX6_checkPlaceInOrder 35 = .ok (.athrow, 1) := by decide +kernel
theorem dX6_checkPlaceInOrder_36 : decode cX6_checkPlaceInOrder 36 = .ok (.iload_n 1, 1) := by decide +kernel
theorem dX6_checkPlaceInOrder_37 : decode cX6_checkPlaceInOrder 37 = .ok (.ifCond .lt 14, 3) := by decide +kernel
theorem dX6_checkPlaceInOrder_40 : decode cX6_checkPlaceInOrder 40 = .ok (.iload_n 1, 1) := by decide +kernel
theorem dX6_checkPlaceInOrder_41 : decode cX6_checkPlaceInOrder 41 = .ok (.aload_n 0, 1) := by decide +kernel
theorem dX6_checkPlaceInOrder_42 : decode cX6_checkPlaceInOrder 42 = .ok (.getfield 12, 3) := by decide +kernel
theorem dX6_checkPlaceInOrder_45 : decode cX6_checkPlaceInOrder 45 = .ok (.getfield 93, 3) := by decide +kernel
theorem dX6_checkPlaceInOrder_48 : decode cX6_checkPlaceInOrder 48 = .ok (.if_icmp .lt 14, 3) := by decide +kernel
theorem dX6_checkPlaceInOrder_51 : decode cX6_checkPlaceInOrder 51 = .ok (.new 228, 3) := by decide +kernel
theorem dX6_checkPlaceInOrder_54 : decode cX6_checkPlaceInOrder 54 = .ok (.dup, 1) := by decide +kernel
theorem dX6_checkPlaceInOrder_55 : decode cX6_checkPlaceInOrder 55 = .ok (.ldc_w 298, 3) := by decide +kernel
theorem dX6_checkPlaceInOrder_58 : decode cX6_checkPlaceInOrder 58 = .ok (.invokespecial 232, 3) := by decide +kernel
theorem dX6_checkPlaceInOrder_61 : decode cX6_checkPlaceInOrder 61 = .ok (.athrow, 1) := by decide +kernel
theorem dX6_checkPlaceInOrder_62 : decode cX6_checkPlaceInOrder 62 = .ok (.return_, 1) := by decide +kernel
theorem dJx00060_init_a7421_0 : decode cJx00060_init_a7421 0 = .ok (.aload_n 0, 1) := by decide +kernel
theorem dJx00060_init_a7421_1 : decode cJx00060_init_a7421 1 = .ok (.aload_n 1, 1) := by decide +kernel
theorem dJx00060_init_a7421_2 : decode cJx00060_init_a7421 2 = .ok (.invokespecial 7, 3) := by decide +kernel
theorem dJx00060_init_a7421_5 : decode cJx00060_init_a7421 5 = .ok (.return_, 1) := by decide +kernel
theorem dJ11_isValidCodePoint_9a6ad_0 : decode cJ11_isValidCodePoint_9a6ad 0 = .ok (.iload_n 0, 1) := by decide +kernel
theorem dJ11_isValidCodePoint_9a6ad_1 : decode cJ11_isValidCodePoint_9a6ad 1 = .ok (.bipush 16, 2) := by decide +kernel
theorem dJ11_isValidCodePoint_9a6ad_3 : decode cJ11_isValidCodePoint_9a6ad 3 = .ok (.iushr, 1) := by decide +kernel
theorem dJ11_isValidCodePoint_9a6ad_4 : decode cJ11_isValidCodePoint_9a6ad 4 = .ok (.istore_n 1, 1) := by decide +kernel
theorem dJ11_isValidCodePoint_9a6ad_5 : decode cJ11_isValidCodePoint_9a6ad 5 = .ok (.iload_n 1, 1) := by decide +kernel
theorem dJ11_isValidCodePoint_9a6ad_6 : decode cJ11_isValidCodePoint_9a6ad 6 = .ok (.bipush 17, 2) := by decide +kernel
theorem dJ11_isValidCodePoint_9a6ad_8 : decode cJ11_isValidCodePoint_9a6ad 8 = .ok (.if_icmp .ge 7, 3) := by decide +kernel
theorem dJ11_isValidCodePoint_9a6ad_11 : decode cJ11_isValidCodePoint_9a6ad 11 = .ok (.iconst 1, 1) := by decide +kernel
theorem dJ11_isValidCodePoint_9a6ad_12 : decode cJ11_isValidCodePoint_9a6ad 12 = .ok (.goto 4, 3) := by decide +kernel
theorem dJ11_isValidCodePoint_9a6ad_15 : decode cJ11_isValidCodePoint_9a6ad 15 = .ok (.iconst 0, 1) := by decide +kernel
theorem dJ11_isValidCodePoint_9a6ad_16 : decode cJ11_isValidCodePoint_9a6ad 16 = .ok (.ireturn, 1) := by decide +kernel
theorem dJ11_highSurrogate_5068e_0 : decode cJ11_highSurrogate_5068e 0 = .ok (.iload_n 0, 1) := by decide +kernel
theorem dJ11_highSurrogate_5068e_1 : decode cJ11_highSurrogate_5068e 1 = .ok (.bipush 10, 2) := by decide +kernel
theorem dJ11_highSurrogate_5068e_3 : decode cJ11_highSurrogate_5068e 3 = .ok (.iushr, 1) := by decide +kernel
theorem dJ11_highSurrogate_5068e_4 : decode cJ11_highSurrogate_5068e 4 = .ok (.ldc 110, 2) := by decide +kernel
theorem dJ11_highSurrogate_5068e_6 : decode cJ11_highSurrogate_5068e 6 = .ok (.iadd, 1) := by decide +kernel
theorem dJ11_highSurrogate_5068e_7 : decode cJ11_highSurrogate_5068e 7 = .ok (.i2c, 1) := by decide +kernel
theorem dJ11_highSurrogate_5068e_8 : decode cJ11_highSurrogate_5068e 8 = .ok (.ireturn, 1) := by decide +kernel
theorem dJ11_lowSurrogate_5068e_0 : decode cJ11_lowSurrogate_5068e 0 = .ok (.iload_n 0, 1) := by decide +kernel
theorem dJ11_lowSurrogate_5068e_1 : decode cJ11_lowSurrogate_5068e 1 = .ok (.sipush 1023, 3) := by decide +kernel
theorem dJ11_lowSurrogate_5068e_4 : decode cJ11_lowSurrogate_5068e 4 = .ok (.iand, 1) := by decide +kernel
theorem dJ11_lowSurrogate_5068e_5 : decode cJ11_lowSurrogate_5068e 5 = .ok (.ldc 76, 2) := by decide +kernel
theorem dJ11_lowSurrogate_5068e_7 : decode cJ11_lowSurrogate_5068e 7 = .ok (.iadd, 1) := by decide +kernel
theorem dJ11_lowSurrogate_5068e_8 : decode cJ11_lowSurrogate_5068e 8 = .ok (.i2c, 1) := by decide +kernel
theorem dJ11_lowSurrogate_5068e_9 : decode cJ11_lowSurrogate_5068e 9 = .ok (.ireturn, 1) := by decide +kernel
theorem dJ6_bitCount_0f7a4_0 : decode cJ6_bitCount_0f7a4 0 = .ok (.iload_n 0, 1) := by decide +kernel
theorem dJ6_bitCount_0f7a4_1 : decode cJ6_bitCount_0f7a4 1 = .ok (.iload_n 0, 1) := by decide +kernel
theorem dJ6_bitCount_0f7a4_2 : decode cJ6_bitCount_0f7a4 2 = .ok (.iconst 1, 1) := by decide +kernel
theorem dJ6_bitCount_0f7a4_3 : decode cJ6_bitCount_0f7a4 3 = .ok (.iushr, 1) := by decide +kernel
theorem dJ6_bitCount_0f7a4_4 : decode cJ6_bitCount_0f7a4 4 = .ok (.ldc_w 265, 3) := by decide +kernel
theorem dJ6_bitCount_0f7a4_7 : decode cJ6_bitCount_0f7a4 7 = .ok (.iand, 1) := by decide +kernel
theorem dJ6_bitCount_0f7a4_8 : decode cJ6_bitCount_0f7a4 8 = .ok (.isub, 1) := by decide +kernel
theorem dJ6_bitCount_0f7a4_9 : decode cJ6_bitCount_0f7a4 9 = .ok (.istore_n 0, 1) := by decide +kernel
theorem dJ6_bitCount_0f7a4_10 : decode cJ6_bitCount_0f7a4 10 = .ok (.iload_n 0, 1) := by decide +kernel
theorem dJ6_bitCount_0f7a4_11 : decode cJ6_bitCount_0f7a4 11 = .ok (.ldc_w 266, 3) := by decide +kernel
theorem dJ6_bitCount_0f7a4_14 : decode cJ6_bitCount_0f7a4 14 = .ok (.iand, 1) := by decide +kernel
theorem dJ6_bitCount_0f7a4_15 : decode cJ6_bitCount_0f7a4 15 = .ok (.iload_n 0, 1) := by decide +kernel
theorem dJ6_bitCount_0f7a4_16 : decode cJ6_bitCount_0f7a4 16 = .ok (.iconst 2, 1) := by decide +kernel
theorem dJ6_bitCount_0f7a4_17 : decode cJ6_bitCount_0f7a4 17 = .ok (.iushr, 1) := by decide +kernel
theorem dJ6_bitCount_0f7a4_18 : decode cJ6_bitCount_0f7a4 18 = .ok (.ldc_w 266, 3) := by decide +kernel
theorem dJ6_bitCount_0f7a4_21 : decode cJ6_bitCount_0f7a4 21 = .ok (.iand, 1) := by decide +kernel
theorem dJ6_bitCount_0f7a4_22 : decode cJ6_bitCount_0f7a4 22 = .ok (.iadd, 1) := by decide +kernel
theorem dJ6_bitCount_0f7a4_23 : decode cJ6_bitCount_0f7a4 23 = .ok (.istore_n 0, 1) := by decide +kernel
theorem dJ6_bitCount_0f7a4_24 : decode cJ6_bitCount_0f7a4 24 = .ok (.iload_n 0, 1) := by decide +kernel
theorem dJ6_bitCount_0f7a4_25 : decode cJ6_bitCount_0f7a4 25 = .ok (.iload_n 0, 1) := by decide +kernel
theorem dJ6_bitCount_0f7a4_26 : decode cJ6_bitCount_0f7a4 26 = .ok (.iconst 4, 1) := by decide +kernel
theorem dJ6_bitCount_0f7a4_27 : decode cJ6_bitCount_0f7a4 27 = .ok (.iushr, 1) := by decide +kernel
theorem dJ6_bitCount_0f7a4_28 : decode cJ6_bitCount_0f7a4 28 = .ok (.iadd, 1) := by decide +kernel
theorem dJ6_bitCount_0f7a4_29 : decode cJ6_bitCount_0f7a4 29 = .ok (.ldc_w 267, 3) := by decide +kernel
theorem dJ6_bitCount_0f7a4_32 : decode cJ6_bitCount_0f7a4 32 = .ok (.iand, 1) := by decide +kernel
theorem dJ6_bitCount_0f7a4_33 : decode cJ6_bitCount_0f7a4 33 = .ok (.istore_n 0, 1) := by decide +kernel
theorem dJ6_bitCount_0f7a4_34 : decode cJ6_bitCount_0f7a4 34 = .ok (.iload_n 0, 1) := by decide +kernel
theorem dJ6_bitCount_0f7a4_35 : decode cJ6_bitCount_0f7a4 35 = .ok (.iload_n 0, 1) := by decide +kernel
theorem dJ6_bitCount_0f7a4_36 : decode cJ6_bitCount_0f7a4 36 = .ok (.bipush 8, 2) := by decide +kernel
theorem dJ6_bitCount_0f7a4_38 : decode cJ6_bitCount_0f7a4 38 = .ok (.iushr, 1) := by decide +kernel
theorem dJ6_bitCount_0f7a4_39 : decode cJ6_bitCount_0f7a4 39 = .ok (.iadd, 1) := by decide +kernel
theorem dJ6_bitCount_0f7a4_40 : decode cJ6_bitCount_0f7a4 40 = .ok (.istore_n 0, 1) := by decide +kernel
theorem dJ6_bitCount_0f7a4_41 : decode cJ6_bitCount_0f7a4 41 = .ok (.iload_n 0, 1) := by decide +kernel
theorem dJ6_bitCount_0f7a4_42 : decode cJ6_bitCount_0f7a4 42 = .ok (.iload_n 0, 1) := by decide +kernel
theorem dJ6_bitCount_0f7a4_43 : decode cJ6_bitCount_0f7a4 43 = .ok (.bipush 16, 2) := by decide +kernel
theorem dJ6_bitCount_0f7a4_45 : decode cJ6_bitCount_0f7a4 45 = .ok (.iushr, 1) := by decide +kernel
theorem dJ6_bitCount_0f7a4_46 : decode cJ6_bitCount_0f7a4 46 = .ok (.iadd, 1) := by decide +kernel
theorem dJ6_bitCount_0f7a4_47 : decode cJ6_bitCount_0f7a4 47 = .ok (.istore_n 0, 1) := by decide +kernel
theorem dJ6_bitCount_0f7a4_48 : decode cJ6_bitCount_0f7a4 48 = .ok (.iload_n 0, 1) := by decide +kernel
theorem dJ6_bitCount_0f7a4_49 : decode cJ6_bitCount_0f7a4 49 = .ok (.bipush 63, 2) := by decide +kernel
theorem dJ6_bitCount_0f7a4_51 : decode cJ6_bitCount_0f7a4 51 = .ok (.iand, 1) := by decide +kernel
theorem dJ6_bitCount_0f7a4_52 : decode cJ6_bitCount_0f7a4 52 = .ok (.ireturn, 1) := by decide +kernel
theorem dJ9_floorDiv_f86c9_0 : decode cJ9_floorDiv_f86c9 0 = .ok (.lload_n 0, 1) := by decide +kernel
theorem dJ9_floorDiv_f86c9_1 : decode cJ9_floorDiv_f86c9 1 = .ok (.lload_n 2, 1) := by decide +kernel
theorem dJ9_floorDiv_f86c9_2 : decode cJ9_floorDiv_f86c9 2 = .ok (.ldiv, 1) := by decide +kernel
theorem dJ9_floorDiv_f86c9_3 : decode cJ9_floorDiv_f86c9 3 = .ok (.lstore 4, 2) := by decide +kernel
theorem dJ9_floorDiv_f86c9_5 : decode cJ9_floorDiv_f86c9 5 = .ok (.lload_n 0, 1) := by decide +kernel
theorem dJ9_floorDiv_f86c9_6 : decode cJ9_floorDiv_f86c9 6 = .ok (.lload_n 2, 1) := by decide +kernel
theorem dJ9_floorDiv_f86c9_7 : decode cJ9_floorDiv_f86c9 7 = .ok (.lxor, 1) := by decide +kernel
theorem dJ9_floorDiv_f86c9_8 : decode cJ9_floorDiv_f86c9 8 = .ok (.lconst 0, 1) := by decide +kernel
theorem dJ9_floorDiv_f86c9_9 : decode cJ9_floorDiv_f86c9 9 = .ok (.lcmp, 1) := by decide +kernel
theorem dJ9_floorDiv_f86c9_10 : decode cJ9_floorDiv_f86c9 10 = .ok (.ifCond .ge 17, 3) := by decide +kernel
theorem dJ9_floorDiv_f86c9_13 : decode cJ9_floorDiv_f86c9 13 = .ok (.lload 4, 2) := by decide +kernel
theorem dJ9_floorDiv_f86c9_15 : decode cJ9_floorDiv_f86c9 15 = .ok (.lload_n 2, 1) := by decide +kernel
theorem dJ9_floorDiv_f86c9_16 : decode cJ9_floorDiv_f86c9 16 = .ok (.lmul, 1) := by decide +kernel
theorem dJ9_floorDiv_f86c9_17 : decode cJ9_floorDiv_f86c9 17 = .ok (.lload_n 0, 1) := by decide +kernel
theorem dJ9_floorDiv_f86c9_18 : decode cJ9_floorDiv_f86c9 18 = .ok (.lcmp, 1) := by decide +kernel
theorem dJ9_floorDiv_f86c9_19 : decode cJ9_floorDiv_f86c9 19 = .ok (.ifCond .eq 8, 3) := by decide +kernel
theorem dJ9_floorDiv_f86c9_22 : decode cJ9_floorDiv_f86c9 22 = .ok (.lload 4, 2) := by decide +kernel
theorem dJ9_floorDiv_f86c9_24 : decode cJ9_floorDiv_f86c9 24 = .ok (.lconst 1, 1) := by decide +kernel
theorem dJ9_floorDiv_f86c9_25 : decode cJ9_floorDiv_f86c9 25 = .ok (.lsub, 1) := by decide +kernel
theorem dJ9_floorDiv_f86c9_26 : decode cJ9_floorDiv_f86c9 26 = .ok (.lreturn, 1) := by decide +kernel
theorem dJ9_floorDiv_f86c9_27 : decode cJ9_floorDiv_f86c9 27 = .ok (.lload 4, 2) := by decide +kernel
theorem dJ9_floorDiv_f86c9_29 : decode cJ9_floorDiv_f86c9 29 = .ok (.lreturn, 1) := by decide +kernel
theorem dJ9_floorMod_f86c9_0 : decode cJ9_floorMod_f86c9 0 = .ok (.lload_n 0, 1) := by decide +kernel
theorem dJ9_floorMod_f86c9_1 : decode cJ9_floorMod_f86c9 1 = .ok (.lload_n 2, 1) := by decide +kernel
theorem dJ9_floorMod_f86c9_2 : decode cJ9_floorMod_f86c9 2 = .ok (.lrem, 1) := by decide +kernel
theorem dJ9_floorMod_f86c9_3 : decode cJ9_floorMod_f86c9 3 = .ok (.lstore 4, 2) := by decide +kernel
theorem dJ9_floorMod_f86c9_5 : decode cJ9_floorMod_f86c9 5 = .ok (.lload_n 0, 1) := by decide +kernel
theorem dJ9_floorMod_f86c9_6 : decode cJ9_floorMod_f86c9 6 = .ok (.lload_n 2, 1) := by decide +kernel
theorem dJ9_floorMod_f86c9_7 : decode cJ9_floorMod_f86c9 7 = .ok (.lxor, 1) := by decide +kernel
theorem dJ9_floorMod_f86c9_8 : decode cJ9_floorMod_f86c9 8 = .ok (.lconst 0, 1) := by decide +kernel
theorem dJ9_floorMod_f86c9_9 : decode cJ9_floorMod_f86c9 9 = .ok (.lcmp, 1) := by decide +kernel
theorem dJ9_floorMod_f86c9_10 : decode cJ9_floorMod_f86c9 10 = .ok (.ifCond .ge 15, 3) := by decide +kernel
theorem dJ9_floorMod_f86c9_13 : decode cJ9_floorMod_f86c9 13 = .ok (.lload 4, 2) := by decide +kernel
theorem dJ9_floorMod_f86c9_15 : decode cJ9_floorMod_f86c9 15 = .ok (.lconst 0, 1) := by decide +kernel
theorem dJ9_floorMod_f86c9_16 : decode cJ9_floorMod_f86c9 16 = .ok (.lcmp, 1) := by decide +kernel
theorem dJ9_floorMod_f86c9_17 : decode cJ9_floorMod_f86c9 17 = .ok (.ifCond .eq 8, 3) := by decide +kernel
theorem dJ9_floorMod_f86c9_20 : decode cJ9_floorMod_f86c9 20 = .ok (.lload 4, 2) := by decide +kernel
theorem dJ9_floorMod_f86c9_22 : decode cJ9_floorMod_f86c9 22 = .ok (.lload_n 2, 1) := by decide +kernel
theorem dJ9_floorMod_f86c9_23 : decode cJ9_floorMod_f86c9 23 = .ok (.ladd, 1) := by decide +kernel
theorem dJ9_floorMod_f86c9_24 : decode cJ9_floorMod_f86c9 24 = .ok (.lreturn, 1) := by decide +kernel
theorem dJ9_floorMod_f86c9_25 : decode cJ9_floorMod_f86c9 25 = .ok (.lload 4, 2) := by decide +kernel
theorem dJ9_floorMod_f86c9_27 : decode cJ9_floorMod_f86c9 27 = .ok (.lreturn, 1) := by decide +kernel
theorem dJ9_abs_067f4_0 : decode cJ9_abs_067f4 0 = .ok (.lload_n 0, 1) := by decide +kernel
theorem dJ9_abs_067f4_1 : decode cJ9_abs_067f4 1 = .ok (.lconst 0, 1) := by decide +kernel
theorem dJ9_abs_067f4_2 : decode cJ9_abs_067f4 2 = .ok (.lcmp, 1) := by decide +kernel
theorem dJ9_abs_067f4_3 : decode cJ9_abs_067f4 3 = .ok (.ifCond .ge 8, 3) := by decide +kernel
theorem dJ9_abs_067f4_6 : decode cJ9_abs_067f4 6 = .ok (.lload_n 0, 1) := by decide +kernel
theorem dJ9_abs_067f4_7 : decode cJ9_abs_067f4 7 = .ok (.lneg, 1) := by decide +kernel
theorem dJ9_abs_067f4_8 : decode cJ9_abs_067f4 8 = .ok (.goto 4, 3) := by decide +kernel
theorem dJ9_abs_067f4_11 : decode cJ9_abs_067f4 11 = .ok (.lload_n 0, 1) := by decide +kernel
theorem dJ9_abs_067f4_12 : decode cJ9_abs_067f4 12 = .ok (.lreturn, 1) := by decide +kernel
theorem dJ9_max_7cf53_0 : decode cJ9_max_7cf53 0 = .ok (.iload_n 0, 1) := by decide +kernel
theorem dJ9_max_7cf53_1 : decode cJ9_max_7cf53 1 = .ok (.iload_n 1, 1) := by decide +kernel
theorem dJ9_max_7cf53_2 : decode cJ9_max_7cf53 2 = .ok (.if_icmp .lt 7, 3) := by decide +kernel
theorem dJ9_max_7cf53_5 : decode cJ9_max_7cf53 5 = .ok (.iload_n 0, 1) := by decide +kernel
theorem dJ9_max_7cf53_6 : decode cJ9_max_7cf53 6 = .ok (.goto 4, 3) := by decide +kernel
theorem dJ9_max_7cf53_9 : decode cJ9_max_7cf53 9 = .ok (.iload_n 1, 1) := by decide +kernel
theorem dJ9_max_7cf53_10 : decode cJ9_max_7cf53 10 = .ok (.ireturn, 1) := by decide +kernel
theorem dJ9_max_f86c9_0 : decode cJ9_max_f86c9 0 = .ok (.lload_n 0, 1) := by decide +kernel
theorem dJ9_max_f86c9_1 : decode cJ9_max_f86c9 1 = .ok (.lload_n 2, 1) := by decide +kernel
theorem dJ9_max_f86c9_2 : decode cJ9_max_f86c9 2 = .ok (.lcmp, 1) := by decide +kernel
theorem dJ9_max_f86c9_3 : decode cJ9_max_f86c9 3 = .ok (.ifCond .lt 7, 3) := by decide +kernel
theorem dJ9_max_f86c9_6 : decode cJ9_max_f86c9 6 = .ok (.lload_n 0, 1) := by decide +kernel
theorem dJ9_max_f86c9_7 : decode cJ9_max_f86c9 7 = .ok (.goto 4, 3) := by decide +kernel
theorem dJ9_max_f86c9_10 : decode cJ9_max_f86c9 10 = .ok (.lload_n 2, 1) := by decide +kernel
theorem dJ9_max_f86c9_11 : decode cJ9_max_f86c9 11 = .ok (.lreturn, 1) := by decide +kernel
theorem dJ9_min_7cf53_0 : decode cJ9_min_7cf53 0 = .ok (.iload_n 0, 1) := by decide +kernel
theorem dJ9_min_7cf53_1 : decode cJ9_min_7cf53 1 = .ok (.iload_n 1, 1) := by decide +kernel
theorem dJ9_min_7cf53_2 : decode cJ9_min_7cf53 2 = .ok (.if_icmp .gt 7, 3) := by decide +kernel
theorem dJ9_min_7cf53_5 : decode cJ9_min_7cf53 5 = .ok (.iload_n 0, 1) := by decide +kernel
theorem dJ9_min_7cf53_6 : decode cJ9_min_7cf53 6 = .ok (.goto 4, 3) := by decide +kernel
theorem dJ9_min_7cf53_9 : decode cJ9_min_7cf53 9 = .ok (.iload_n 1, 1) := by decide +kernel
theorem dJ9_min_7cf53_10 : decode cJ9_min_7cf53 10 = .ok (.ireturn, 1) := by decide +kernel
theorem dJ9_min_f86c9_0 : decode cJ9_min_f86c9 0 = .ok (.lload_n 0, 1) := by decide +kernel
theorem dJ9_min_f86c9_1 : decode cJ9_min_f86c9 1 = .ok (.lload_n 2, 1) := by decide +kernel
theorem dJ9_min_f86c9_2 : decode cJ9_min_f86c9 2 = .ok (.lcmp, 1) := by decide +kernel
theorem dJ9_min_f86c9_3 : decode cJ9_min_f86c9 3 = .ok (.ifCond .gt 7, 3) := by decide +kernel
theorem dJ9_min_f86c9_6 : decode cJ9_min_f86c9 6 = .ok (.lload_n 0, 1) := by decide +kernel
theorem dJ9_min_f86c9_7 : decode cJ9_min_f86c9 7 = .ok (.goto 4, 3) := by decide +kernel
theorem dJ9_min_f86c9_10 : decode cJ9_min_f86c9 10 = .ok (.lload_n 2, 1) := by decide +kernel
theorem dJ9_min_f86c9_11 : decode cJ9_min_f86c9 11 = .ok (.lreturn, 1) := by decide +kernel
theorem dJ0_length_8abf5_0 : decode cJ0_length_8abf5 0 = .ok (.aload_n 0, 1) := by decide +kernel
theorem dJ0_length_8abf5_1 : decode cJ0_length_8abf5 1 = .ok (.getfield 9, 3) := by decide +kernel
theorem dJ0_length_8abf5_4 : decode cJ0_length_8abf5 4 = .ok (.arraylength, 1) := by decide +kernel
theorem dJ0_length_8abf5_5 : decode cJ0_length_8abf5 5 = .ok (.aload_n 0, 1) := by decide +kernel
theorem dJ0_length_8abf5_6 : decode cJ0_length_8abf5 6 = .ok (.invokevirtual 335, 3) := by decide +kernel
theorem dJ0_length_8abf5_9 : decode cJ0_length_8abf5 9 = .ok (.ishr, 1) := by decide +kernel
theorem dJ0_length_8abf5_10 : decode cJ0_length_8abf5 10 = .ok (.ireturn, 1) := by decide +kernel
theorem dJ0_charAt_5068e_0 : decode cJ0_charAt_5068e 0 = .ok (.aload_n 0, 1) := by decide +kernel
theorem dJ0_charAt_5068e_1 : decode cJ0_charAt_5068e 1 = .ok (.invokevirtual 492, 3) := by decide +kernel
theorem dJ0_charAt_5068e_4 : decode cJ0_charAt_5068e 4 = .ok (.ifCond .eq 12, 3) := by decide +kernel
theorem dJ0_charAt_5068e_7 : decode cJ0_charAt_5068e 7 = .ok (.aload_n 0, 1) := by decide +kernel
theorem dJ0_charAt_5068e_8 : decode cJ0_charAt_5068e 8 = .ok (.getfield 9, 3) := by decide +kernel
theorem dJ0_charAt_5068e_11 : decode cJ0_charAt_5068e 11 = .ok (.iload_n 1, 1) := by decide +kernel
theorem dJ0_charAt_5068e_12 : decode cJ0_charAt_5068e 12 = .ok (.invokestatic 495, 3) := by decide +kernel
theorem dJ0_charAt_5068e_15 : decode cJ0_charAt_5068e 15 = .ok (.ireturn, 1) := by decide +kernel
theorem dJ0_charAt_5068e_16 : decode cJ0_charAt_5068e 16 = .ok (.aload_n 0, 1) := by decide +kernel
theorem dJ0_charAt_5068e_17 : decode cJ0_charAt_5068e 17 = .ok (.getfield 9, 3) := by decide +kernel
theorem dJ0_charAt_5068e_20 : decode cJ0_charAt_5068e 20 = .ok (.iload_n 1, 1) := by decide +kernel
theorem dJ0_charAt_5068e_21 : decode cJ0_charAt_5068e 21 = .ok (.invokestatic 498, 3) := by decide +kernel
theorem dJ0_charAt_5068e_24 : decode cJ0_charAt_5068e 24 = .ok (.ireturn, 1) := by decide +kernel
theorem dJ0_indexOf_0f7a4_0 : decode cJ0_indexOf_0f7a4 0 = .ok (.aload_n 0, 1) := by decide +kernel
theorem dJ0_indexOf_0f7a4_1 : decode cJ0_indexOf_0f7a4 1 = .ok (.iload_n 1, 1) := by decide +kernel
theorem dJ0_indexOf_0f7a4_2 : decode cJ0_indexOf_0f7a4 2 = .ok (.iconst 0, 1) := by decide +kernel
theorem dJ0_indexOf_0f7a4_3 : decode cJ0_indexOf_0f7a4 3 = .ok (.invokevirtual 633, 3) := by decide +kernel
theorem dJ0_indexOf_0f7a4_6 : decode cJ0_indexOf_0f7a4 6 = .ok (.ireturn, 1) := by decide +kernel
theorem dJ0_indexOf_7cf53_0 : decode cJ0_indexOf_7cf53 0 = .ok (.aload_n 0, 1) := by decide +kernel
theorem dJ0_indexOf_7cf53_1 : decode cJ0_indexOf_7cf53 1 = .ok (.invokevirtual 492, 3) := by decide +kernel
theorem dJ0_indexOf_7cf53_4 : decode cJ0_indexOf_7cf53 4 = .ok (.ifCond .eq 19, 3) := by decide +kernel
theorem dJ0_indexOf_7cf53_7 : decode cJ0_indexOf_7cf53 7 = .ok (.aload_n 0, 1) := by decide +kernel
theorem dJ0_indexOf_7cf53_8 : decode cJ0_indexOf_7cf53 8 = .ok (.getfield 9, 3) := by decide +kernel
theorem dJ0_indexOf_7cf53_11 : decode cJ0_indexOf_7cf53 11 = .ok (.iload_n 1, 1) := by decide +kernel
theorem dJ0_indexOf_7cf53_12 : decode cJ0_indexOf_7cf53 12 = .ok (.iload_n 2, 1) := by decide +kernel
theorem dJ0_indexOf_7cf53_13 : decode cJ0_indexOf_7cf53 13 = .ok (.aload_n 0, 1) := by decide +kernel
theorem dJ0_indexOf_7cf53_14 : decode cJ0_indexOf_7cf53 14 = .ok (.invokevirtual 505, 3) := by decide +kernel
theorem dJ0_indexOf_7cf53_17 : decode cJ0_indexOf_7cf53 17 = .ok (.invokestatic 637, 3) := by decide +kernel
theorem dJ0_indexOf_7cf53_20 : decode cJ0_indexOf_7cf53 20 = .ok (.goto 16, 3) := by decide +kernel
theorem dJ0_indexOf_7cf53_23 : decode cJ0_indexOf_7cf53 23 = .ok (.aload_n 0, 1) := by decide +kernel
theorem dJ0_indexOf_7cf53_24 : decode cJ0_indexOf_7cf53 24 = .ok (.getfield 9, 3) := by decide +kernel
theorem dJ0_indexOf_7cf53_27 : decode cJ0_indexOf_7cf53 27 = .ok (.iload_n 1, 1) := by decide +kernel
theorem dJ0_indexOf_7cf53_28 : decode cJ0_indexOf_7cf53 28 = .ok (.iload_n 2, 1) := by decide +kernel
theorem dJ0_indexOf_7cf53_29 : decode cJ0_indexOf_7cf53 29 = .ok (.aload_n 0, 1) := by decide +kernel
theorem dJ0_indexOf_7cf53_30 : decode cJ0_indexOf_7cf53 30 = .ok (.invokevirtual 505, 3) := by decide +kernel
theorem dJ0_indexOf_7cf53_33 : decode cJ0_indexOf_7cf53 33 = .ok (.invokestatic 640, 3) := by decide +kernel
theorem dJ0_indexOf_7cf53_36 : decode cJ0_indexOf_7cf53 36 = .ok (.ireturn, 1) := by decide +kernel
theorem dJ0_coder_7d493_0 : decode cJ0_coder_7d493 0 = .ok (.getstatic 38, 3) := by decide +kernel
theorem dJ0_coder_7d493_3 : decode cJ0_coder_7d493 3 = .ok (.ifCond .eq 10, 3) := by decide +kernel
theorem dJ0_coder_7d493_6 : decode cJ0_coder_7d493 6 = .ok (.aload_n 0, 1) := by decide +kernel
theorem dJ0_coder_7d493_7 : decode cJ0_coder_7d493 7 = .ok (.getfield 15, 3) := by decide +kernel
theorem dJ0_coder_7d493_10 : decode cJ0_coder_7d493 10 = .ok (.goto 4, 3) := by decide +kernel
theorem dJ0_coder_7d493_13 : decode cJ0_coder_7d493 13 = .ok (.iconst 1, 1) := by decide +kernel
theorem dJ0_coder_7d493_14 : decode cJ0_coder_7d493 14 = .ok (.ireturn, 1) := by decide +kernel
theorem dJ0_isLatin1_aae02_0 : decode cJ0_isLatin1_aae02 0 = .ok (.getstatic 38, 3) := by decide +kernel
theorem dJ0_isLatin1_aae02_3 : decode cJ0_isLatin1_aae02 3 = .ok (.ifCond .eq 14, 3) := by decide +kernel
theorem dJ0_isLatin1_aae02_6 : decode cJ0_isLatin1_aae02 6 = .ok (.aload_n 0, 1) := by decide +kernel
theorem dJ0_isLatin1_aae02_7 : decode cJ0_isLatin1_aae02 7 = .ok (.getfield 15, 3) := by decide +kernel
theorem dJ0_isLatin1_aae02_10 : decode cJ0_isLatin1_aae02 10 = .ok (.ifCond .ne 7, 3) := by decide +kernel
theorem dJ0_isLatin1_aae02_13 : decode cJ0_isLatin1_aae02 13 = .ok (.iconst 1, 1) := by decide +kernel
theorem dJ0_isLatin1_aae02_14 : decode cJ0_isLatin1_aae02 14 = .ok (.goto 4, 3) := by decide +kernel
theorem dJ0_isLatin1_aae02_17 : decode cJ0_isLatin1_aae02 17 = .ok (.iconst 0, 1) := by decide +kernel
theorem dJ0_isLatin1_aae02_18 : decode cJ0_isLatin1_aae02 18 = .ok (.ireturn, 1) := by decide +kernel
theorem dJ0_checkIndex_df160_0 : decode cJ0_checkIndex_df160 0 = .ok (.iload_n 0, 1) := by decide +kernel
theorem dJ0_checkIndex_df160_1 : decode cJ0_checkIndex_df160 1 = .ok (.iload_n 1, 1) := by decide +kernel
theorem dJ0_checkIndex_df160_2 : decode cJ0_checkIndex_df160 2 = .ok (.getstatic 1053, 3) := by decide +kernel
theorem dJ0_checkIndex_df160_5 : decode cJ0_checkIndex_df160 5 = .ok (.invokestatic 1059, 3) := by decide +kernel
theorem dJ0_checkIndex_df160_8 : decode cJ0_checkIndex_df160 8 = .ok (.pop, 1) := by decide +kernel
theorem dJ0_checkIndex_df160_9 : decode cJ0_checkIndex_df160 9 = .ok (.return_, 1) := by decide +kernel
theorem dJ0_checkBoundsBeginEnd_23922_0 : decode cJ0_checkBoundsBeginEnd_23922 0 = .ok (.iload_n 0, 1) := by decide +kernel
theorem dJ0_checkBoundsBeginEnd_23922_1 : decode cJ0_checkBoundsBeginEnd_23922 1 = .ok (.iload_n 1, 1) := by decide +kernel
theorem dJ0_checkBoundsBeginEnd_23922_2 : decode cJ0_checkBoundsBeginEnd_23922 2 = .ok (.iload_n 2, 1) := by decide +kernel
theorem dJ0_checkBoundsBeginEnd_23922_3 : decode cJ0_checkBoundsBeginEnd_23922 3 = .ok (.getstatic 1053, 3) := by decide +kernel
theorem dJ0_checkBoundsBeginEnd_23922_6 : decode cJ0_checkBoundsBeginEnd_23922 6 = .ok (.invokestatic 1062, 3) := by decide +kernel
theorem dJ0_checkBoundsBeginEnd_23922_9 : decode cJ0_checkBoundsBeginEnd_23922 9 = .ok (.pop, 1) := by decide +kernel
theorem dJ0_checkBoundsBeginEnd_23922_10 : decode cJ0_checkBoundsBeginEnd_23922 10 = .ok (.return_, 1) := by decide +kernel
theorem dJ1_charAt_3b067_0 : decode cJ1_charAt_3b067 0 = .ok (.iload_n 1, 1) := by decide +kernel
theorem dJ1_charAt_3b067_1 : decode cJ1_charAt_3b067 1 = .ok (.aload_n 0, 1) := by decide +kernel
theorem dJ1_charAt_3b067_2 : decode cJ1_charAt_3b067 2 = .ok (.arraylength, 1) := by decide +kernel
theorem dJ1_charAt_3b067_3 : decode cJ1_charAt_3b067 3 = .ok (.invokestatic 9, 3) := by decide +kernel
theorem dJ1_charAt_3b067_6 : decode cJ1_charAt_3b067 6 = .ok (.aload_n 0, 1) := by decide +kernel
theorem dJ1_charAt_3b067_7 : decode cJ1_charAt_3b067 7 = .ok (.iload_n 1, 1) := by decide +kernel
theorem dJ1_charAt_3b067_8 : decode cJ1_charAt_3b067 8 = .ok (.baload, 1) := by decide +kernel
theorem dJ1_charAt_3b067_9 : decode cJ1_charAt_3b067 9 = .ok (.sipush 255, 3) := by decide +kernel
theorem dJ1_charAt_3b067_12 : decode cJ1_charAt_3b067 12 = .ok (.iand, 1) := by decide +kernel
theorem dJ1_charAt_3b067_13 : decode cJ1_charAt_3b067 13 = .ok (.i2c, 1) := by decide +kernel
theorem dJ1_charAt_3b067_14 : decode cJ1_charAt_3b067 14 = .ok (.ireturn, 1) := by decide +kernel
theorem dJ1_canEncode_9a6ad_0 : decode cJ1_canEncode_9a6ad 0 = .ok (.iload_n 0, 1) := by decide +kernel
theorem dJ1_canEncode_9a6ad_1 : decode cJ1_canEncode_9a6ad 1 = .ok (.ifCond .lt 14, 3) := by decide +kernel
theorem dJ1_canEncode_9a6ad_4 : decode cJ1_canEncode_9a6ad 4 = .ok (.iload_n 0, 1) := by decide +kernel
theorem dJ1_canEncode_9a6ad_5 : decode cJ1_canEncode_9a6ad 5 = .ok (.sipush 255, 3) := by decide +kernel
theorem dJ1_canEncode_9a6ad_8 : decode cJ1_canEncode_9a6ad 8 = .ok (.if_icmp .gt 7, 3) := by decide +kernel
theorem dJ1_canEncode_9a6ad_11 : decode cJ1_canEncode_9a6ad 11 = .ok (.iconst 1, 1) := by decide +kernel
theorem dJ1_canEncode_9a6ad_12 : decode cJ1_canEncode_9a6ad 12 = .ok (.goto 4, 3) := by decide +kernel
theorem dJ1_canEncode_9a6ad_15 : decode cJ1_canEncode_9a6ad 15 = .ok (.iconst 0, 1) := by decide +kernel
theorem dJ1_canEncode_9a6ad_16 : decode cJ1_canEncode_9a6ad 16 = .ok (.ireturn, 1) := by decide +kernel
theorem dJ1_indexOf_4cfef_0 : decode cJ1_indexOf_4cfef 0 = .ok (.iload_n 1, 1) := by decide +kernel
theorem dJ1_indexOf_4cfef_1 : decode cJ1_indexOf_4cfef 1 = .ok (.invokestatic 88, 3) := by decide +kernel
theorem dJ1_indexOf_4cfef_4 : decode cJ1_indexOf_4cfef 4 = .ok (.ifCond .ne 5, 3) := by decide +kernel
theorem dJ1_indexOf_4cfef_7 : decode cJ1_indexOf_4cfef 7 = .ok (.iconst (-1), 1) := by decide +kernel
theorem dJ1_indexOf_4cfef_8 : decode cJ1_indexOf_4cfef 8 = .ok (.ireturn, 1) := by decide +kernel
theorem dJ1_indexOf_4cfef_9 : decode cJ1_indexOf_4cfef 9 = .ok (.iload_n 2, 1) := by decide +kernel
theorem dJ1_indexOf_4cfef_10 : decode cJ1_indexOf_4cfef 10 = .ok (.iconst 0, 1) := by decide +kernel
theorem dJ1_indexOf_4cfef_11 : decode cJ1_indexOf_4cfef 11 = .ok (.invokestatic 92, 3) := by decide +kernel
theorem dJ1_indexOf_4cfef_14 : decode cJ1_indexOf_4cfef 14 = .ok (.istore_n 2, 1) := by decide +kernel
theorem dJ1_indexOf_4cfef_15 : decode cJ1_indexOf_4cfef 15 = .ok (.iload_n 3, 1) := by decide +kernel
theorem dJ1_indexOf_4cfef_16 : decode cJ1_indexOf_4cfef 16 = .ok (.aload_n 0, 1) := by decide +kernel
theorem dJ1_indexOf_4cfef_17 : decode cJ1_indexOf_4cfef 17 = .ok (.arraylength, 1) := by decide +kernel
theorem dJ1_indexOf_4cfef_18 : decode cJ1_indexOf_4cfef 18 = .ok (.invokestatic 38, 3) := by decide +kernel
theorem dJ1_indexOf_4cfef_21 : decode cJ1_indexOf_4cfef 21 = .ok (.istore_n 3, 1) := by decide +kernel
theorem dJ1_indexOf_4cfef_22 : decode cJ1_indexOf_4cfef 22 = .ok (.iload_n 2, 1) := by decide +kernel
theorem dJ1_indexOf_4cfef_23 : decode cJ1_indexOf_4cfef 23 = .ok (.iload_n 3, 1) := by decide +kernel
theorem dJ1_indexOf_4cfef_24 : decode cJ1_indexOf_4cfef 24 = .ok (.if_icmp .lt 5, 3) := by decide +kernel
theorem dJ1_indexOf_4cfef_27 : decode cJ1_indexOf_4cfef 27 = .ok (.iconst (-1), 1) := by decide +kernel
theorem dJ1_indexOf_4cfef_28 : decode cJ1_indexOf_4cfef 28 = .ok (.ireturn, 1) := by decide +kernel
theorem dJ1_indexOf_4cfef_29 : decode cJ1_indexOf_4cfef 29 = .ok (.aload_n 0, 1) := by decide +kernel
theorem dJ1_indexOf_4cfef_30 : decode cJ1_indexOf_4cfef 30 = .ok (.iload_n 1, 1) := by decide +kernel
theorem dJ1_indexOf_4cfef_31 : decode cJ1_indexOf_4cfef 31 = .ok (.iload_n 2, 1) := by decide +kernel
theorem dJ1_indexOf_4cfef_32 : decode cJ1_indexOf_4cfef 32 = .ok (.iload_n 3, 1) := by decide +kernel
theorem dJ1_indexOf_4cfef_33 : decode cJ1_indexOf_4cfef 33 = .ok (.invokestatic 95, 3) := by decide +kernel
theorem dJ1_indexOf_4cfef_36 : decode cJ1_indexOf_4cfef 36 = .ok (.ireturn, 1) := by decide +kernel
theorem dJ1_indexOfChar_4cfef_0 : decode cJ1_indexOfChar_4cfef 0 = .ok (.iload_n 1, 1) := by decide +kernel
theorem dJ1_indexOfChar_4cfef_1 : decode cJ1_indexOfChar_4cfef 1 = .ok (.i2b, 1) := by decide +kernel
theorem dJ1_indexOfChar_4cfef_2 : decode cJ1_indexOfChar_4cfef 2 = .ok (.istore 4, 2) := by decide +kernel
theorem dJ1_indexOfChar_4cfef_4 : decode cJ1_indexOfChar_4cfef 4 = .ok (.iload_n 2, 1) := by decide +kernel
theorem dJ1_indexOfChar_4cfef_5 : decode cJ1_indexOfChar_4cfef 5 = .ok (.istore 5, 2) := by decide +kernel
theorem dJ1_indexOfChar_4cfef_7 : decode cJ1_indexOfChar_4cfef 7 = .ok (.iload 5, 2) := by decide +kernel
theorem dJ1_indexOfChar_4cfef_9 : decode cJ1_indexOfChar_4cfef 9 = .ok (.iload_n 3, 1) := by decide +kernel
theorem dJ1_indexOfChar_4cfef_10 : decode cJ1_indexOfChar_4cfef 10 = .ok (.if_icmp .ge 21, 3) := by decide +kernel
theorem dJ1_indexOfChar_4cfef_13 : decode cJ1_indexOfChar_4cfef 13 = .ok (.aload_n 0, 1) := by decide +kernel
theorem dJ1_indexOfChar_4cfef_14 : decode cJ1_indexOfChar_4cfef 14 = .ok (.iload 5, 2) := by decide +kernel
theorem dJ1_indexOfChar_4cfef_16 : decode cJ1_indexOfChar_4cfef 16 = .ok (.baload, 1) := by decide +kernel
theorem dJ1_indexOfChar_4cfef_17 : decode cJ1_indexOfChar_4cfef 17 = .ok (.iload 4, 2) := by decide +kernel
theorem dJ1_indexOfChar_4cfef_19 : decode cJ1_indexOfChar_4cfef 19 = .ok (.if_icmp .ne 6, 3) := by decide +kernel
theorem dJ1_indexOfChar_4cfef_22 : decode cJ1_indexOfChar_4cfef 22 = .ok (.iload 5, 2) := by decide +kernel
theorem dJ1_indexOfChar_4cfef_24 : decode cJ1_indexOfChar_4cfef 24 = .ok (.ireturn, 1) := by decide +kernel
theorem dJ1_indexOfChar_4cfef_25 : decode cJ1_indexOfChar_4cfef 25 = .ok (.iinc 5 1, 3) := by decide +kernel
theorem dJ1_indexOfChar_4cfef_28 : decode cJ1_indexOfChar_4cfef 28 = .ok (.goto (-21), 3) := by decide +kernel
theorem dJ1_indexOfChar_4cfef_31 : decode cJ1_indexOfChar_4cfef 31 = .ok (.iconst (-1), 1) := by decide +kernel
theorem dJ1_indexOfChar_4cfef_32 : decode cJ1_indexOfChar_4cfef 32 = .ok (.ireturn, 1) := by decide +kernel
theorem dJ2_getChar_3b067_0 : decode cJ2_getChar_3b067 0 = .ok (.getstatic 44, 3) := by decide +kernel
theorem dJ2_getChar_3b067_3 : decode cJ2_getChar_3b067 3 = .ok (.ifCond .ne 25, 3) := by decide +kernel
theorem dJ2_getChar_3b067_6 : decode cJ2_getChar_3b067 6 = .ok (.iload_n 1, 1) := by decide +kernel
theorem dJ2_getChar_3b067_7 : decode cJ2_getChar_3b067 7 = .ok (.ifCond .lt 11, 3) := by decide +kernel
theorem dJ2_getChar_3b067_10 : decode cJ2_getChar_3b067 10 = .ok (.iload_n 1, 1) := by decide +kernel
theorem dJ2_getChar_3b067_11 : decode cJ2_getChar_3b067 11 = .ok (.aload_n 0, 1) := by decide +kernel
theorem dJ2_getChar_3b067_12 : decode cJ2_getChar_3b067 12 = .ok (.invokestatic 48, 3) := by decide +kernel
theorem dJ2_getChar_3b067_15 : decode cJ2_getChar_3b067 15 = .ok (.if_icmp .lt 13, 3) := by decide +kernel
theorem dJ2_getChar_3b067_18 : decode cJ2_getChar_3b067 18 = .ok (.new 52, 3) := by decide +kernel
theorem dJ2_getChar_3b067_21 : decode cJ2_getChar_3b067 21 = .ok (.dup, 1) := by decide +kernel
theorem dJ2_getChar_3b067_22 : decode cJ2_getChar_3b067 22 = .ok (.ldc 54, 2) := by decide +kernel
theorem dJ2_getChar_3b067_24 : decode cJ2_getChar_3b067 24 = .ok (.invokespecial 56, 3) := by decide +kernel
theorem dJ2_getChar_3b067_27 : decode cJ2_getChar_3b067 27 = .ok (.athrow, 1) := by decide +kernel
theorem dJ2_getChar_3b067_28 : decode cJ2_getChar_3b067 28 = .ok (.iload_n 1, 1) := by decide +kernel
theorem dJ2_getChar_3b067_29 : decode cJ2_getChar_3b067 29 = .ok (.iconst 1, 1) := by decide +kernel
theorem dJ2_getChar_3b067_30 : decode cJ2_getChar_3b067 30 = .ok (.ishl, 1) := by decide +kernel
theorem dJ2_getChar_3b067_31 : decode cJ2_getChar_3b067 31 = .ok (.istore_n 1, 1) := by decide +kernel
theorem dJ2_getChar_3b067_32 : decode cJ2_getChar_3b067 32 = .ok (.aload_n 0, 1) := by decide +kernel
theorem dJ2_getChar_3b067_33 : decode cJ2_getChar_3b067 33 = .ok (.iload_n 1, 1) := by decide +kernel
theorem dJ2_getChar_3b067_34 : decode cJ2_getChar_3b067 34 = .ok (.iinc 1 1, 3) := by decide +kernel
theorem dJ2_getChar_3b067_37 : decode cJ2_getChar_3b067 37 = .ok (.baload, 1) := by decide +kernel
theorem dJ2_getChar_3b067_38 : decode cJ2_getChar_3b067 38 = .ok (.sipush 255, 3) := by decide +kernel
theorem dJ2_getChar_3b067_41 : decode cJ2_getChar_3b067 41 = .ok (.iand, 1) := by decide +kernel
theorem dJ2_getChar_3b067_42 : decode cJ2_getChar_3b067 42 = .ok (.getstatic 59, 3) := by decide +kernel
theorem dJ2_getChar_3b067_45 : decode cJ2_getChar_3b067 45 = .ok (.ishl, 1) := by decide +kernel
theorem dJ2_getChar_3b067_46 : decode cJ2_getChar_3b067 46 = .ok (.aload_n 0, 1) := by decide +kernel
theorem dJ2_getChar_3b067_47 : decode cJ2_getChar_3b067 47 = .ok (.iload_n 1, 1) := by decide +kernel
theorem dJ2_getChar_3b067_48 : decode cJ2_getChar_3b067 48 = .ok (.baload, 1) := by decide +kernel
theorem dJ2_getChar_3b067_49 : decode cJ2_getChar_3b067 49 = .ok (.sipush 255, 3) := by decide +kernel
theorem dJ2_getChar_3b067_52 : decode cJ2_getChar_3b067 52 = .ok (.iand, 1) := by decide +kernel
theorem dJ2_getChar_3b067_53 : decode cJ2_getChar_3b067 53 = .ok (.getstatic 63, 3) := by decide +kernel
theorem dJ2_getChar_3b067_56 : decode cJ2_getChar_3b067 56 = .ok (.ishl, 1) := by decide +kernel
theorem dJ2_getChar_3b067_57 : decode cJ2_getChar_3b067 57 = .ok (.ior, 1) := by decide +kernel
theorem dJ2_getChar_3b067_58 : decode cJ2_getChar_3b067 58 = .ok (.i2c, 1) := by decide +kernel
theorem dJ2_getChar_3b067_59 : decode cJ2_getChar_3b067 59 = .ok (.ireturn, 1) := by decide +kernel
theorem dJ2_length_9d52b_0 : decode cJ2_length_9d52b 0 = .ok (.aload_n 0, 1) := by decide +kernel
theorem dJ2_length_9d52b_1 : decode cJ2_length_9d52b 1 = .ok (.arraylength, 1) := by decide +kernel
theorem dJ2_length_9d52b_2 : decode cJ2_length_9d52b 2 = .ok (.iconst 1, 1) := by decide +kernel
theorem dJ2_length_9d52b_3 : decode cJ2_length_9d52b 3 = .ok (.ishr, 1) := by decide +kernel
theorem dJ2_length_9d52b_4 : decode cJ2_length_9d52b 4 = .ok (.ireturn, 1) := by decide +kernel
theorem dJ2_indexOf_4cfef_0 : decode cJ2_indexOf_4cfef 0 = .ok (.iload_n 2, 1) := by decide +kernel
theorem dJ2_indexOf_4cfef_1 : decode cJ2_indexOf_4cfef 1 = .ok (.iconst 0, 1) := by decide +kernel
theorem dJ2_indexOf_4cfef_2 : decode cJ2_indexOf_4cfef 2 = .ok (.invokestatic 224, 3) := by decide +kernel
theorem dJ2_indexOf_4cfef_5 : decode cJ2_indexOf_4cfef 5 = .ok (.istore_n 2, 1) := by decide +kernel
theorem dJ2_indexOf_4cfef_6 : decode cJ2_indexOf_4cfef 6 = .ok (.iload_n 3, 1) := by decide +kernel
theorem dJ2_indexOf_4cfef_7 : decode cJ2_indexOf_4cfef 7 = .ok (.aload_n 0, 1) := by decide +kernel
theorem dJ2_indexOf_4cfef_8 : decode cJ2_indexOf_4cfef 8 = .ok (.arraylength, 1) := by decide +kernel
theorem dJ2_indexOf_4cfef_9 : decode cJ2_indexOf_4cfef 9 = .ok (.iconst 1, 1) := by decide +kernel
theorem dJ2_indexOf_4cfef_10 : decode cJ2_indexOf_4cfef 10 = .ok (.ishr, 1) := by decide +kernel
theorem dJ2_indexOf_4cfef_11 : decode cJ2_indexOf_4cfef 11 = .ok (.invokestatic 183, 3) := by decide +kernel
theorem dJ2_indexOf_4cfef_14 : decode cJ2_indexOf_4cfef 14 = .ok (.istore_n 3, 1) := by decide +kernel
theorem dJ2_indexOf_4cfef_15 : decode cJ2_indexOf_4cfef 15 = .ok (.iload_n 2, 1) := by decide +kernel
theorem dJ2_indexOf_4cfef_16 : decode cJ2_indexOf_4cfef 16 = .ok (.iload_n 3, 1) := by decide +kernel
theorem dJ2_indexOf_4cfef_17 : decode cJ2_indexOf_4cfef 17 = .ok (.if_icmp .lt 5, 3) := by decide +kernel
theorem dJ2_indexOf_4cfef_20 : decode cJ2_indexOf_4cfef 20 = .ok (.iconst (-1), 1) := by decide +kernel
theorem dJ2_indexOf_4cfef_21 : decode cJ2_indexOf_4cfef 21 = .ok (.ireturn, 1) := by decide +kernel
theorem dJ2_indexOf_4cfef_22 : decode cJ2_indexOf_4cfef 22 = .ok (.iload_n 1, 1) := by decide +kernel
theorem dJ2_indexOf_4cfef_23 : decode cJ2_indexOf_4cfef 23 = .ok (.ldc 227, 2) := by decide +kernel
theorem dJ2_indexOf_4cfef_25 : decode cJ2_indexOf_4cfef 25 = .ok (.if_icmp .ge 11, 3) := by decide +kernel
theorem dJ2_indexOf_4cfef_28 : decode cJ2_indexOf_4cfef 28 = .ok (.aload_n 0, 1) := by decide +kernel
theorem dJ2_indexOf_4cfef_29 : decode cJ2_indexOf_4cfef 29 = .ok (.iload_n 1, 1) := by decide +kernel
theorem dJ2_indexOf_4cfef_30 : decode cJ2_indexOf_4cfef 30 = .ok (.iload_n 2, 1) := by decide +kernel
theorem dJ2_indexOf_4cfef_31 : decode cJ2_indexOf_4cfef 31 = .ok (.iload_n 3, 1) := by decide +kernel
theorem dJ2_indexOf_4cfef_32 : decode cJ2_indexOf_4cfef 32 = .ok (.invokestatic 228, 3) := by decide +kernel
theorem dJ2_indexOf_4cfef_35 : decode cJ2_indexOf_4cfef 35 = .ok (.ireturn, 1) := by decide +kernel
theorem dJ2_indexOf_4cfef_36 : decode cJ2_indexOf_4cfef 36 = .ok (.aload_n 0, 1) := by decide +kernel
theorem dJ2_indexOf_4cfef_37 : decode cJ2_indexOf_4cfef 37 = .ok (.iload_n 1, 1) := by decide +kernel
theorem dJ2_indexOf_4cfef_38 : decode cJ2_indexOf_4cfef 38 = .ok (.iload_n 2, 1) := by decide +kernel
theorem dJ2_indexOf_4cfef_39 : decode cJ2_indexOf_4cfef 39 = .ok (.iload_n 3, 1) := by decide +kernel
theorem dJ2_indexOf_4cfef_40 : decode cJ2_indexOf_4cfef 40 = .ok (.invokestatic 232, 3) := by decide +kernel
theorem dJ2_indexOf_4cfef_43 : decode cJ2_indexOf_4cfef 43 = .ok (.ireturn, 1) := by decide +kernel
theorem dJ2_indexOfChar_4cfef_0 : decode cJ2_indexOfChar_4cfef 0 = .ok (.iload_n 2, 1) := by decide +kernel
theorem dJ2_indexOfChar_4cfef_1 : decode cJ2_indexOfChar_4cfef 1 = .ok (.iload_n 3, 1) := by decide +kernel
theorem dJ2_indexOfChar_4cfef_2 : decode cJ2_indexOfChar_4cfef 2 = .ok (.aload_n 0, 1) := by decide +kernel
theorem dJ2_indexOfChar_4cfef_3 : decode cJ2_indexOfChar_4cfef 3 = .ok (.invokestatic 96, 3) := by decide +kernel
theorem dJ2_indexOfChar_4cfef_6 : decode cJ2_indexOfChar_4cfef 6 = .ok (.aload_n 0, 1) := by decide +kernel
theorem dJ2_indexOfChar_4cfef_7 : decode cJ2_indexOfChar_4cfef 7 = .ok (.iload_n 1, 1) := by decide +kernel
theorem dJ2_indexOfChar_4cfef_8 : decode cJ2_indexOfChar_4cfef 8 = .ok (.iload_n 2, 1) := by decide +kernel
theorem dJ2_indexOfChar_4cfef_9 : decode cJ2_indexOfChar_4cfef 9 = .ok (.iload_n 3, 1) := by decide +kernel
theorem dJ2_indexOfChar_4cfef_10 : decode cJ2_indexOfChar_4cfef 10 = .ok (.invokestatic 244, 3) := by decide +kernel
theorem dJ2_indexOfChar_4cfef_13 : decode cJ2_indexOfChar_4cfef 13 = .ok (.ireturn, 1) := by decide +kernel
theorem dJ2_indexOfCharUnsafe_4cfef_0 : decode cJ2_indexOfCharUnsafe_4cfef 0 = .ok (.iload_n 2, 1) := by decide +kernel
theorem dJ2_indexOfCharUnsafe_4cfef_1 : decode cJ2_indexOfCharUnsafe_4cfef 1 = .ok (.istore 4, 2) := by decide +kernel
theorem dJ2_indexOfCharUnsafe_4cfef_3 : decode cJ2_indexOfCharUnsafe_4cfef 3 = .ok (.iload 4, 2) := by decide +kernel
theorem dJ2_indexOfCharUnsafe_4cfef_5 : decode cJ2_indexOfCharUnsafe_4cfef 5 = .ok (.iload_n 3, 1) := by decide +kernel
theorem dJ2_indexOfCharUnsafe_4cfef_6 : decode cJ2_indexOfCharUnsafe_4cfef 6 = .ok (.if_icmp .ge 22, 3) := by decide +kernel
theorem dJ2_indexOfCharUnsafe_4cfef_9 : decode cJ2_indexOfCharUnsafe_4cfef 9 = .ok (.aload_n 0, 1) := by decide +kernel
theorem dJ2_indexOfCharUnsafe_4cfef_10 : decode cJ2_indexOfCharUnsafe_4cfef 10 = .ok (.iload 4, 2) := by decide +kernel
theorem dJ2_indexOfCharUnsafe_4cfef_12 : decode cJ2_indexOfCharUnsafe_4cfef 12 = .ok (.invokestatic 71, 3) := by decide +kernel
theorem dJ2_indexOfCharUnsafe_4cfef_15 : decode cJ2_indexOfCharUnsafe_4cfef 15 = .ok (.iload_n 1, 1) := by decide +kernel
theorem dJ2_indexOfCharUnsafe_4cfef_16 : decode cJ2_indexOfCharUnsafe_4cfef 16 = .ok (.if_icmp .ne 6, 3) := by decide +kernel
theorem dJ2_indexOfCharUnsafe_4cfef_19 : decode cJ2_indexOfCharUnsafe_4cfef 19 = .ok (.iload 4, 2) := by decide +kernel
theorem dJ2_indexOfCharUnsafe_4cfef_21 : decode cJ2_indexOfCharUnsafe_4cfef 21 = .ok (.ireturn, 1) := by decide +kernel
theorem dJ2_indexOfCharUnsafe_4cfef_22 : decode cJ2_indexOfCharUnsafe_4cfef 22 = .ok (.iinc 4 1, 3) := by decide +kernel
theorem dJ2_indexOfCharUnsafe_4cfef_25 : decode cJ2_indexOfCharUnsafe_4cfef 25 = .ok (.goto (-22), 3) := by decide +kernel
theorem dJ2_indexOfCharUnsafe_4cfef_28 : decode cJ2_indexOfCharUnsafe_4cfef 28 = .ok (.iconst (-1), 1) := by decide +kernel
theorem dJ2_indexOfCharUnsafe_4cfef_29 : decode cJ2_indexOfCharUnsafe_4cfef 29 = .ok (.ireturn, 1) := by decide +kernel
theorem dJ2_indexOfSupplementary_4cfef_0 : decode cJ2_indexOfSupplementary_4cfef 0 = .ok (.iload_n 1, 1) := by decide +kernel
theorem dJ2_indexOfSupplementary_4cfef_1 : decode cJ2_indexOfSupplementary_4cfef 1 = .ok (.invokestatic 164, 3) := by decide +kernel
theorem dJ2_indexOfSupplementary_4cfef_4 : decode cJ2_indexOfSupplementary_4cfef 4 = .ok (.ifCond .eq 65, 3) := by decide +kernel
theorem dJ2_indexOfSupplementary_4cfef_7 : decode cJ2_indexOfSupplementary_4cfef 7 = .ok (.iload_n 1, 1) := by decide +kernel
theorem dJ2_indexOfSupplementary_4cfef_8 : decode cJ2_indexOfSupplementary_4cfef 8 = .ok (.invokestatic 157, 3) := by decide +kernel
theorem dJ2_indexOfSupplementary_4cfef_11 : decode cJ2_indexOfSupplementary_4cfef 11 = .ok (.istore 4, 2) := by decide +kernel
theorem dJ2_indexOfSupplementary_4cfef_13 : decode cJ2_indexOfSupplementary_4cfef 13 = .ok (.iload_n 1, 1) := by decide +kernel
theorem dJ2_indexOfSupplementary_4cfef_14 : decode cJ2_indexOfSupplementary_4cfef 14 = .ok (.invokestatic 161, 3) := by decide +kernel
theorem dJ2_indexOfSupplementary_4cfef_17 : decode cJ2_indexOfSupplementary_4cfef 17 = .ok (.istore 5, 2) := by decide +kernel
theorem dJ2_indexOfSupplementary_4cfef_19 : decode cJ2_indexOfSupplementary_4cfef 19 = .ok (.iload_n 2, 1) := by decide +kernel
theorem dJ2_indexOfSupplementary_4cfef_20 : decode cJ2_indexOfSupplementary_4cfef 20 = .ok (.iload_n 3, 1) := by decide +kernel
theorem dJ2_indexOfSupplementary_4cfef_21 : decode cJ2_indexOfSupplementary_4cfef 21 = .ok (.aload_n 0, 1) := by decide +kernel
theorem dJ2_indexOfSupplementary_4cfef_22 : decode cJ2_indexOfSupplementary_4cfef 22 = .ok (.invokestatic 96, 3) := by decide +kernel
theorem dJ2_indexOfSupplementary_4cfef_25 : decode cJ2_indexOfSupplementary_4cfef 25 = .ok (.iload_n 2, 1) := by decide +kernel
theorem dJ2_indexOfSupplementary_4cfef_26 : decode cJ2_indexOfSupplementary_4cfef 26 = .ok (.istore 6, 2) := by decide +kernel
theorem dJ2_indexOfSupplementary_4cfef_28 : decode cJ2_indexOfSupplementary_4cfef 28 = .ok (.iload 6, 2) := by decide +kernel
theorem dJ2_indexOfSupplementary_4cfef_30 : decode cJ2_indexOfSupplementary_4cfef 30 = .ok (.iload_n 3, 1) := by decide +kernel
theorem dJ2_indexOfSupplementary_4cfef_31 : decode cJ2_indexOfSupplementary_4cfef 31 = .ok (.iconst 1, 1) := by decide +kernel
theorem dJ2_indexOfSupplementary_4cfef_32 : decode cJ2_indexOfSupplementary_4cfef 32 = .ok (.isub, 1) := by decide +kernel
theorem dJ2_indexOfSupplementary_4cfef_33 : decode cJ2_indexOfSupplementary_4cfef 33 = .ok (.if_icmp .ge 36, 3) := by decide +kernel
theorem dJ2_indexOfSupplementary_4cfef_36 : decode cJ2_indexOfSupplementary_4cfef 36 = .ok (.aload_n 0, 1) := by decide +kernel
theorem dJ2_indexOfSupplementary_4cfef_37 : decode cJ2_indexOfSupplementary_4cfef 37 = .ok (.iload 6, 2) := by decide +kernel
theorem dJ2_indexOfSupplementary_4cfef_39 : decode cJ2_indexOfSupplementary_4cfef 39 = .ok (.invokestatic 71, 3) := by decide +kernel
theorem dJ2_indexOfSupplementary_4cfef_42 : decode cJ2_indexOfSupplementary_4cfef 42 = .ok (.iload 4, 2) := by decide +kernel
theorem dJ2_indexOfSupplementary_4cfef_44 : decode cJ2_indexOfSupplementary_4cfef 44 = .ok (.if_icmp .ne 19, 3) := by decide +kernel
theorem dJ2_indexOfSupplementary_4cfef_47 : decode cJ2_indexOfSupplementary_4cfef 47 = .ok (.aload_n 0, 1) := by decide +kernel
theorem dJ2_indexOfSupplementary_4cfef_48 : decode cJ2_indexOfSupplementary_4cfef 48 = .ok (.iload 6, 2) := by decide +kernel
theorem dJ2_indexOfSupplementary_4cfef_50 : decode cJ2_indexOfSupplementary_4cfef 50 = .ok (.iconst 1, 1) := by decide +kernel
theorem dJ2_indexOfSupplementary_4cfef_51 : decode cJ2_indexOfSupplementary_4cfef 51 = .ok (.iadd, 1) := by decide +kernel
theorem dJ2_indexOfSupplementary_4cfef_52 : decode cJ2_indexOfSupplementary_4cfef 52 = .ok (.invokestatic 71, 3) := by decide +kernel
theorem dJ2_indexOfSupplementary_4cfef_55 : decode cJ2_indexOfSupplementary_4cfef 55 = .ok (.iload 5, 2) := by decide +kernel
theorem dJ2_indexOfSupplementary_4cfef_57 : decode cJ2_indexOfSupplementary_4cfef 57 = .ok (.if_icmp .ne 6, 3) := by decide +kernel
theorem dJ2_indexOfSupplementary_4cfef_60 : decode cJ2_indexOfSupplementary_4cfef 60 = .ok (.iload 6, 2) := by decide +kernel
theorem dJ2_indexOfSupplementary_4cfef_62 : decode cJ2_indexOfSupplementary_4cfef 62 = .ok (.ireturn, 1) := by decide +kernel
theorem dJ2_indexOfSupplementary_4cfef_63 : decode cJ2_indexOfSupplementary_4cfef 63 = .ok (.iinc 6 1, 3) := by decide +kernel
theorem dJ2_indexOfSupplementary_4cfef_66 : decode cJ2_indexOfSupplementary_4cfef 66 = .ok (.goto (-38), 3) := by decide +kernel
theorem dJ2_indexOfSupplementary_4cfef_69 : decode cJ2_indexOfSupplementary_4cfef 69 = .ok (.iconst (-1), 1) := by decide +kernel
theorem dJ2_indexOfSupplementary_4cfef_70 : decode cJ2_indexOfSupplementary_4cfef 70 = .ok (.ireturn, 1) := by decide +kernel
theorem dJ2_charAt_3b067_0 : decode cJ2_charAt_3b067 0 = .ok (.iload_n 1, 1) := by decide +kernel
theorem dJ2_charAt_3b067_1 : decode cJ2_charAt_3b067 1 = .ok (.aload_n 0, 1) := by decide +kernel
theorem dJ2_charAt_3b067_2 : decode cJ2_charAt_3b067 2 = .ok (.invokestatic 67, 3) := by decide +kernel
theorem dJ2_charAt_3b067_5 : decode cJ2_charAt_3b067 5 = .ok (.aload_n 0, 1) := by decide +kernel
theorem dJ2_charAt_3b067_6 : decode cJ2_charAt_3b067 6 = .ok (.iload_n 1, 1) := by decide +kernel
theorem dJ2_charAt_3b067_7 : decode cJ2_charAt_3b067 7 = .ok (.invokestatic 71, 3) := by decide +kernel
theorem dJ2_charAt_3b067_10 : decode cJ2_charAt_3b067 10 = .ok (.ireturn, 1) := by decide +kernel
theorem dJ2_checkIndex_2214a_0 : decode cJ2_checkIndex_2214a 0 = .ok (.iload_n 0, 1) := by decide +kernel
theorem dJ2_checkIndex_2214a_1 : decode cJ2_checkIndex_2214a 1 = .ok (.aload_n 1, 1) := by decide +kernel
theorem dJ2_checkIndex_2214a_2 : decode cJ2_checkIndex_2214a 2 = .ok (.invokestatic 48, 3) := by decide +kernel
theorem dJ2_checkIndex_2214a_5 : decode cJ2_checkIndex_2214a 5 = .ok (.invokestatic 414, 3) := by decide +kernel
theorem dJ2_checkIndex_2214a_8 : decode cJ2_checkIndex_2214a 8 = .ok (.return_, 1) := by decide +kernel
theorem dJ2_checkBoundsBeginEnd_d044e_0 : decode cJ2_checkBoundsBeginEnd_d044e 0 = .ok (.iload_n 0, 1) := by decide +kernel
theorem dJ2_checkBoundsBeginEnd_d044e_1 : decode cJ2_checkBoundsBeginEnd_d044e 1 = .ok (.iload_n 1, 1) := by decide +kernel
theorem dJ2_checkBoundsBeginEnd_d044e_2 : decode cJ2_checkBoundsBeginEnd_d044e 2 = .ok (.aload_n 2, 1) := by decide +kernel
theorem dJ2_checkBoundsBeginEnd_d044e_3 : decode cJ2_checkBoundsBeginEnd_d044e 3 = .ok (.invokestatic 48, 3) := by decide +kernel
theorem dJ2_checkBoundsBeginEnd_d044e_6 : decode cJ2_checkBoundsBeginEnd_d044e 6 = .ok (.invokestatic 241, 3) := by decide +kernel
theorem dJ2_checkBoundsBeginEnd_d044e_9 : decode cJ2_checkBoundsBeginEnd_d044e 9 = .ok (.return_, 1) := by decide +kernel
theorem dJ3_checkIndex_8e157_0 : decode cJ3_checkIndex_8e157 0 = .ok (.iload_n 0, 1) := by decide +kernel
theorem dJ3_checkIndex_8e157_1 : decode cJ3_checkIndex_8e157 1 = .ok (.ifCond .lt 8, 3) := by decide +kernel
theorem dJ3_checkIndex_8e157_4 : decode cJ3_checkIndex_8e157 4 = .ok (.iload_n 0, 1) := by decide +kernel
theorem dJ3_checkIndex_8e157_5 : decode cJ3_checkIndex_8e157 5 = .ok (.iload_n 1, 1) := by decide +kernel
theorem dJ3_checkIndex_8e157_6 : decode cJ3_checkIndex_8e157 6 = .ok (.if_icmp .lt 10, 3) := by decide +kernel
theorem dJ3_checkIndex_8e157_9 : decode cJ3_checkIndex_8e157 9 = .ok (.aload_n 2, 1) := by decide +kernel
theorem dJ3_checkIndex_8e157_10 : decode cJ3_checkIndex_8e157 10 = .ok (.iload_n 0, 1) := by decide +kernel
theorem dJ3_checkIndex_8e157_11 : decode cJ3_checkIndex_8e157 11 = .ok (.iload_n 1, 1) := by decide +kernel
theorem dJ3_checkIndex_8e157_12 : decode cJ3_checkIndex_8e157 12 = .ok (.invokestatic 95, 3) := by decide +kernel
theorem dJ3_checkIndex_8e157_15 : decode cJ3_checkIndex_8e157 15 = .ok (.athrow, 1) := by decide +kernel
theorem dJ3_checkIndex_8e157_16 : decode cJ3_checkIndex_8e157 16 = .ok (.iload_n 0, 1) := by decide +kernel
theorem dJ3_checkIndex_8e157_17 : decode cJ3_checkIndex_8e157 17 = .ok (.ireturn, 1) := by decide +kernel
theorem dJ3_checkFromToIndex_8c36e_0 : decode cJ3_checkFromToIndex_8c36e 0 = .ok (.iload_n 0, 1) := by decide +kernel
theorem dJ3_checkFromToIndex_8c36e_1 : decode cJ3_checkFromToIndex_8c36e 1 = .ok (.ifCond .lt 13, 3) := by decide +kernel
theorem dJ3_checkFromToIndex_8c36e_4 : decode cJ3_checkFromToIndex_8c36e 4 = .ok (.iload_n 0, 1) := by decide +kernel
theorem dJ3_checkFromToIndex_8c36e_5 : decode cJ3_checkFromToIndex_8c36e 5 = .ok (.iload_n 1, 1) := by decide +kernel
theorem dJ3_checkFromToIndex_8c36e_6 : decode cJ3_checkFromToIndex_8c36e 6 = .ok (.if_icmp .gt 8, 3) := by decide +kernel
theorem dJ3_checkFromToIndex_8c36e_9 : decode cJ3_checkFromToIndex_8c36e 9 = .ok (.iload_n 1, 1) := by decide +kernel
theorem dJ3_checkFromToIndex_8c36e_10 : decode cJ3_checkFromToIndex_8c36e 10 = .ok (.iload_n 2, 1) := by decide +kernel
theorem dJ3_checkFromToIndex_8c36e_11 : decode cJ3_checkFromToIndex_8c36e 11 = .ok (.if_icmp .le 11, 3) := by decide +kernel
theorem dJ3_checkFromToIndex_8c36e_14 : decode cJ3_checkFromToIndex_8c36e 14 = .ok (.aload_n 3, 1) := by decide +kernel
theorem dJ3_checkFromToIndex_8c36e_15 : decode cJ3_checkFromToIndex_8c36e 15 = .ok (.iload_n 0, 1) := by decide +kernel
theorem dJ3_checkFromToIndex_8c36e_16 : decode cJ3_checkFromToIndex_8c36e 16 = .ok (.iload_n 1, 1) := by decide +kernel
theorem dJ3_checkFromToIndex_8c36e_17 : decode cJ3_checkFromToIndex_8c36e 17 = .ok (.iload_n 2, 1) := by decide +kernel
theorem dJ3_checkFromToIndex_8c36e_18 : decode cJ3_checkFromToIndex_8c36e 18 = .ok (.invokestatic 99, 3) := by decide +kernel
theorem dJ3_checkFromToIndex_8c36e_21 : decode cJ3_checkFromToIndex_8c36e 21 = .ok (.athrow, 1) := by decide +kernel
theorem dJ3_checkFromToIndex_8c36e_22 : decode cJ3_checkFromToIndex_8c36e 22 = .ok (.iload_n 0, 1) := by decide +kernel
theorem dJ3_checkFromToIndex_8c36e_23 : decode cJ3_checkFromToIndex_8c36e 23 = .ok (.ireturn, 1) := by decide +kernel
theorem dL_cell_0 : decode cL_cell 0 = .ok (.iload_n 1, 1) := by decide +kernel
theorem dL_cell_1 : decode cL_cell 1 = .ok (.aload_n 0, 1) := by decide +kernel
theorem dL_cell_2 : decode cL_cell 2 = .ok (.arraylength, 1) := by decide +kernel
theorem dL_cell_3 : decode cL_cell 3 = .ok (.if_icmp .ge 9, 3) := by decide +kernel
theorem dL_cell_6 : decode cL_cell 6 = .ok (.aload_n 0, 1) := by decide +kernel
theorem dL_cell_7 : decode cL_cell 7 = .ok (.iload_n 1, 1) := by decide +kernel
theorem dL_cell_8 : decode cL_cell 8 = .ok (.iaload, 1) := by decide +kernel
theorem dL_cell_9 : decode cL_cell 9 = .ok (.goto 7, 3) := by decide +kernel
theorem dL_cell_12 : decode cL_cell 12 = .ok (.ldc 7, 2) := by decide +kernel
theorem dL_cell_14 : decode cL_cell 14 = .ok (.iload_n 1, 1) := by decide +kernel
theorem dL_cell_15 : decode cL_cell 15 = .ok (.imul, 1) := by decide +kernel
theorem dL_cell_16 : decode cL_cell 16 = .ok (.ireturn, 1) := by decide +kernel
theorem dL_pick_0 : decode cL_pick 0 = .ok (.aload_n 0, 1) := by decide +kernel
theorem dL_pick_1 : decode cL_pick 1 = .ok (.iload_n 1, 1) := by decide +kernel
theorem dL_pick_2 : decode cL_pick 2 = .ok (.invokestatic 8, 3) := by decide +kernel
theorem dL_pick_5 : decode cL_pick 5 = .ok (.iconst 1, 1) := by decide +kernel
theorem dL_pick_6 : decode cL_pick 6 = .ok (.iushr, 1) := by decide +kernel
theorem dL_pick_7 : decode cL_pick 7 = .ok (.iload_n 2, 1) := by decide +kernel
theorem dL_pick_8 : decode cL_pick 8 = .ok (.irem, 1) := by decide +kernel
theorem dL_pick_9 : decode cL_pick 9 = .ok (.ireturn, 1) := by decide +kernel
theorem dL_node_0 : decode cL_node 0 = .ok (.aload_n 0, 1) := by decide +kernel
theorem dL_node_1 : decode cL_node 1 = .ok (.iload_n 1, 1) := by decide +kernel
theorem dL_node_2 : decode cL_node 2 = .ok (.iload_n 2, 1) := by decide +kernel
theorem dL_node_3 : decode cL_node 3 = .ok (.iload_n 3, 1) := by decide +kernel
theorem dL_node_4 : decode cL_node 4 = .ok (.invokevirtual 14, 3) := by decide +kernel
theorem dL_node_7 : decode cL_node 7 = .ok (.ireturn, 1) := by decide +kernel
theorem dL_node_8 : decode cL_node 8 = .ok (.astore 4, 2) := by decide +kernel
theorem dL_node_10 : decode cL_node 10 = .ok (.bipush (-78), 2) := by decide +kernel
theorem dL_node_12 : decode cL_node 12 = .ok (.ireturn, 1) := by decide +kernel
theorem dL_node_13 : decode cL_node 13 = .ok (.astore 4, 2) := by decide +kernel
theorem dL_node_15 : decode cL_node 15 = .ok (.bipush (-79), 2) := by decide +kernel
theorem dL_node_17 : decode cL_node 17 = .ok (.ireturn, 1) := by decide +kernel
theorem dL_member_0 : decode cL_member 0 = .ok (.aload_n 0, 1) := by decide +kernel
theorem dL_member_1 : decode cL_member 1 = .ok (.iload_n 1, 1) := by decide +kernel
theorem dL_member_2 : decode cL_member 2 = .ok (.iload_n 2, 1) := by decide +kernel
theorem dL_member_3 : decode cL_member 3 = .ok (.iload_n 3, 1) := by decide +kernel
theorem dL_member_4 : decode cL_member 4 = .ok (.iload 4, 2) := by decide +kernel
theorem dL_member_6 : decode cL_member 6 = .ok (.invokevirtual 24, 3) := by decide +kernel
theorem dL_member_9 : decode cL_member 9 = .ok (.ireturn, 1) := by decide +kernel
theorem dL_member_10 : decode cL_member 10 = .ok (.astore 5, 2) := by decide +kernel
theorem dL_member_12 : decode cL_member 12 = .ok (.bipush (-77), 2) := by decide +kernel
theorem dL_member_14 : decode cL_member 14 = .ok (.ireturn, 1) := by decide +kernel
theorem dL_member_15 : decode cL_member 15 = .ok (.astore 5, 2) := by decide +kernel
theorem dL_member_17 : decode cL_member 17 = .ok (.bipush (-78), 2) := by decide +kernel
theorem dL_member_19 : decode cL_member 19 = .ok (.ireturn, 1) := by decide +kernel
theorem dL_member_20 : decode cL_member 20 = .ok (.astore 5, 2) := by decide +kernel
theorem dL_member_22 : decode cL_member 22 = .ok (.bipush (-79), 2) := by decide +kernel
theorem dL_member_24 : decode cL_member 24 = .ok (.ireturn, 1) := by decide +kernel
theorem dL_load_0 : decode cL_load 0 = .ok (.aload_n 0, 1) := by decide +kernel
theorem dL_load_1 : decode cL_load 1 = .ok (.iload_n 1, 1) := by decide +kernel
theorem dL_load_2 : decode cL_load 2 = .ok (.iload_n 2, 1) := by decide +kernel
theorem dL_load_3 : decode cL_load 3 = .ok (.iload_n 3, 1) := by decide +kernel
theorem dL_load_4 : decode cL_load 4 = .ok (.invokevirtual 30, 3) := by decide +kernel
theorem dL_load_7 : decode cL_load 7 = .ok (.ireturn, 1) := by decide +kernel
theorem dL_load_8 : decode cL_load 8 = .ok (.astore 4, 2) := by decide +kernel
theorem dL_load_10 : decode cL_load 10 = .ok (.bipush (-77), 2) := by decide +kernel
theorem dL_load_12 : decode cL_load 12 = .ok (.ireturn, 1) := by decide +kernel
theorem dL_load_13 : decode cL_load 13 = .ok (.astore 4, 2) := by decide +kernel
theorem dL_load_15 : decode cL_load 15 = .ok (.bipush (-78), 2) := by decide +kernel
theorem dL_load_17 : decode cL_load 17 = .ok (.ireturn, 1) := by decide +kernel
theorem dL_force_0 : decode cL_force 0 = .ok (.aload_n 0, 1) := by decide +kernel
theorem dL_force_1 : decode cL_force 1 = .ok (.iload_n 1, 1) := by decide +kernel
theorem dL_force_2 : decode cL_force 2 = .ok (.invokevirtual 34, 3) := by decide +kernel
theorem dL_force_5 : decode cL_force 5 = .ok (.lreturn, 1) := by decide +kernel
theorem dL_force_6 : decode cL_force 6 = .ok (.astore_n 2, 1) := by decide +kernel
theorem dL_force_7 : decode cL_force 7 = .ok (.ldc2_w 38, 3) := by decide +kernel
theorem dL_force_10 : decode cL_force 10 = .ok (.lreturn, 1) := by decide +kernel
theorem dL_force_11 : decode cL_force 11 = .ok (.astore_n 2, 1) := by decide +kernel
theorem dL_force_12 : decode cL_force 12 = .ok (.ldc2_w 40, 3) := by decide +kernel
theorem dL_force_15 : decode cL_force 15 = .ok (.lreturn, 1) := by decide +kernel
theorem dL_pull_0 : decode cL_pull 0 = .ok (.aload_n 0, 1) := by decide +kernel
theorem dL_pull_1 : decode cL_pull 1 = .ok (.iload_n 1, 1) := by decide +kernel
theorem dL_pull_2 : decode cL_pull 2 = .ok (.invokevirtual 42, 3) := by decide +kernel
theorem dL_pull_5 : decode cL_pull 5 = .ok (.lreturn, 1) := by decide +kernel
theorem dL_pull_6 : decode cL_pull 6 = .ok (.astore_n 2, 1) := by decide +kernel
theorem dL_pull_7 : decode cL_pull 7 = .ok (.ldc2_w 38, 3) := by decide +kernel
theorem dL_pull_10 : decode cL_pull 10 = .ok (.lreturn, 1) := by decide +kernel
theorem dL_pull_11 : decode cL_pull 11 = .ok (.astore_n 2, 1) := by decide +kernel
theorem dL_pull_12 : decode cL_pull 12 = .ok (.ldc2_w 40, 3) := by decide +kernel
theorem dL_pull_15 : decode cL_pull 15 = .ok (.lreturn, 1) := by decide +kernel
theorem dL_isBalanced_0 : decode cL_isBalanced 0 = .ok (.aload_n 0, 1) := by decide +kernel
theorem dL_isBalanced_1 : decode cL_isBalanced 1 = .ok (.iload_n 1, 1) := by decide +kernel
theorem dL_isBalanced_2 : decode cL_isBalanced 2 = .ok (.invokevirtual 45, 3) := by decide +kernel
theorem dL_isBalanced_5 : decode cL_isBalanced 5 = .ok (.ifCond .eq 7, 3) := by decide +kernel
theorem dL_isBalanced_8 : decode cL_isBalanced 8 = .ok (.iconst 1, 1) := by decide +kernel
theorem dL_isBalanced_9 : decode cL_isBalanced 9 = .ok (.goto 4, 3) := by decide +kernel
theorem dL_isBalanced_12 : decode cL_isBalanced 12 = .ok (.iconst 0, 1) := by decide +kernel
theorem dL_isBalanced_13 : decode cL_isBalanced 13 = .ok (.ireturn, 1) := by decide +kernel
theorem dL_isBalanced_14 : decode cL_isBalanced 14 = .ok (.astore_n 2, 1) := by decide +kernel
theorem dL_isBalanced_15 : decode cL_isBalanced 15 = .ok (.bipush (-78), 2) := by decide +kernel
theorem dL_isBalanced_17 : decode cL_isBalanced 17 = .ok (.ireturn, 1) := by decide +kernel
theorem dL_isBalanced_18 : decode cL_isBalanced 18 = .ok (.astore_n 2, 1) := by decide +kernel
theorem dL_isBalanced_19 : decode cL_isBalanced 19 = .ok (.bipush (-79), 2) := by decide +kernel
theorem dL_isBalanced_21 : decode cL_isBalanced 21 = .ok (.ireturn, 1) := by decide +kernel
theorem dL_weakest_0 : decode cL_weakest 0 = .ok (.aload_n 0, 1) := by decide +kernel
theorem dL_weakest_1 : decode cL_weakest 1 = .ok (.invokevirtual 49, 3) := by decide +kernel
theorem dL_weakest_4 : decode cL_weakest 4 = .ok (.ireturn, 1) := by decide +kernel
theorem dL_weakest_5 : decode cL_weakest 5 = .ok (.astore_n 1, 1) := by decide +kernel
theorem dL_weakest_6 : decode cL_weakest 6 = .ok (.bipush (-79), 2) := by decide +kernel
theorem dL_weakest_8 : decode cL_weakest 8 = .ok (.ireturn, 1) := by decide +kernel
theorem dL_weakest_9 : decode cL_weakest 9 = .ok (.astore_n 1, 1) := by decide +kernel
theorem dL_weakest_10 : decode cL_weakest 10 = .ok (.bipush (-75), 2) := by decide +kernel
theorem dL_weakest_12 : decode cL_weakest 12 = .ok (.ireturn, 1) := by decide +kernel
theorem dL_joint_0 : decode cL_joint 0 = .ok (.aload_n 0, 1) := by decide +kernel
theorem dL_joint_1 : decode cL_joint 1 = .ok (.iload_n 1, 1) := by decide +kernel
theorem dL_joint_2 : decode cL_joint 2 = .ok (.iload_n 2, 1) := by decide +kernel
theorem dL_joint_3 : decode cL_joint 3 = .ok (.iload_n 3, 1) := by decide +kernel
theorem dL_joint_4 : decode cL_joint 4 = .ok (.iload 4, 2) := by decide +kernel
theorem dL_joint_6 : decode cL_joint 6 = .ok (.iload 5, 2) := by decide +kernel
theorem dL_joint_8 : decode cL_joint 8 = .ok (.invokevirtual 55, 3) := by decide +kernel
theorem dL_joint_11 : decode cL_joint 11 = .ok (.ireturn, 1) := by decide +kernel
theorem dL_joint_12 : decode cL_joint 12 = .ok (.astore 6, 2) := by decide +kernel
theorem dL_joint_14 : decode cL_joint 14 = .ok (.bipush (-77), 2) := by decide +kernel
theorem dL_joint_16 : decode cL_joint 16 = .ok (.ireturn, 1) := by decide +kernel
theorem dL_joint_17 : decode cL_joint 17 = .ok (.astore 6, 2) := by decide +kernel
theorem dL_joint_19 : decode cL_joint 19 = .ok (.bipush (-78), 2) := by decide +kernel
theorem dL_joint_21 : decode cL_joint 21 = .ok (.ireturn, 1) := by decide +kernel
theorem dL_joint_22 : decode cL_joint 22 = .ok (.astore 6, 2) := by decide +kernel
theorem dL_joint_24 : decode cL_joint 24 = .ok (.bipush (-76), 2) := by decide +kernel
theorem dL_joint_26 : decode cL_joint 26 = .ok (.ireturn, 1) := by decide +kernel
theorem dL_joint_27 : decode cL_joint 27 = .ok (.astore 6, 2) := by decide +kernel
theorem dL_joint_29 : decode cL_joint 29 = .ok (.bipush (-79), 2) := by decide +kernel
theorem dL_joint_31 : decode cL_joint 31 = .ok (.ireturn, 1) := by decide +kernel
theorem dL_isRight_0 : decode cL_isRight 0 = .ok (.aload_n 0, 1) := by decide +kernel
theorem dL_isRight_1 : decode cL_isRight 1 = .ok (.iload_n 1, 1) := by decide +kernel
theorem dL_isRight_2 : decode cL_isRight 2 = .ok (.invokevirtual 61, 3) := by decide +kernel
theorem dL_isRight_5 : decode cL_isRight 5 = .ok (.ifCond .eq 7, 3) := by decide +kernel
theorem dL_isRight_8 : decode cL_isRight 8 = .ok (.iconst 1, 1) := by decide +kernel
theorem dL_isRight_9 : decode cL_isRight 9 = .ok (.goto 4, 3) := by decide +kernel
theorem dL_isRight_12 : decode cL_isRight 12 = .ok (.iconst 0, 1) := by decide +kernel
theorem dL_isRight_13 : decode cL_isRight 13 = .ok (.ireturn, 1) := by decide +kernel
theorem dL_isRight_14 : decode cL_isRight 14 = .ok (.astore_n 2, 1) := by decide +kernel
theorem dL_isRight_15 : decode cL_isRight 15 = .ok (.bipush (-77), 2) := by decide +kernel
theorem dL_isRight_17 : decode cL_isRight 17 = .ok (.ireturn, 1) := by decide +kernel
theorem dL_misread_0 : decode cL_misread 0 = .ok (.aload_n 0, 1) := by decide +kernel
theorem dL_misread_1 : decode cL_misread 1 = .ok (.iload_n 1, 1) := by decide +kernel
theorem dL_misread_2 : decode cL_misread 2 = .ok (.invokevirtual 64, 3) := by decide +kernel
theorem dL_misread_5 : decode cL_misread 5 = .ok (.ireturn, 1) := by decide +kernel
theorem dL_misread_6 : decode cL_misread 6 = .ok (.astore_n 2, 1) := by decide +kernel
theorem dL_misread_7 : decode cL_misread 7 = .ok (.bipush (-77), 2) := by decide +kernel
theorem dL_misread_9 : decode cL_misread 9 = .ok (.ireturn, 1) := by decide +kernel
theorem dL_cutAt_0 : decode cL_cutAt 0 = .ok (.aload_n 0, 1) := by decide +kernel
theorem dL_cutAt_1 : decode cL_cutAt 1 = .ok (.iload_n 1, 1) := by decide +kernel
theorem dL_cutAt_2 : decode cL_cutAt 2 = .ok (.iload_n 2, 1) := by decide +kernel
theorem dL_cutAt_3 : decode cL_cutAt 3 = .ok (.invokevirtual 68, 3) := by decide +kernel
theorem dL_cutAt_6 : decode cL_cutAt 6 = .ok (.ireturn, 1) := by decide +kernel
theorem dL_cutAt_7 : decode cL_cutAt 7 = .ok (.astore_n 3, 1) := by decide +kernel
theorem dL_cutAt_8 : decode cL_cutAt 8 = .ok (.bipush (-77), 2) := by decide +kernel
theorem dL_cutAt_10 : decode cL_cutAt 10 = .ok (.ireturn, 1) := by decide +kernel
theorem dL_cutAt_11 : decode cL_cutAt 11 = .ok (.astore_n 3, 1) := by decide +kernel
theorem dL_cutAt_12 : decode cL_cutAt 12 = .ok (.bipush (-78), 2) := by decide +kernel
theorem dL_cutAt_14 : decode cL_cutAt 14 = .ok (.ireturn, 1) := by decide +kernel
theorem dL_dry_0 : decode cL_dry 0 = .ok (.aload_n 0, 1) := by decide +kernel
theorem dL_dry_1 : decode cL_dry 1 = .ok (.iload_n 1, 1) := by decide +kernel
theorem dL_dry_2 : decode cL_dry 2 = .ok (.iload_n 2, 1) := by decide +kernel
theorem dL_dry_3 : decode cL_dry 3 = .ok (.invokevirtual 72, 3) := by decide +kernel
theorem dL_dry_6 : decode cL_dry 6 = .ok (.ireturn, 1) := by decide +kernel
theorem dL_dry_7 : decode cL_dry 7 = .ok (.astore_n 3, 1) := by decide +kernel
theorem dL_dry_8 : decode cL_dry 8 = .ok (.bipush (-77), 2) := by decide +kernel
theorem dL_dry_10 : decode cL_dry 10 = .ok (.ireturn, 1) := by decide +kernel
theorem dL_dry_11 : decode cL_dry 11 = .ok (.astore_n 3, 1) := by decide +kernel
theorem dL_dry_12 : decode cL_dry 12 = .ok (.bipush (-78), 2) := by decide +kernel
theorem dL_dry_14 : decode cL_dry 14 = .ok (.ireturn, 1) := by decide +kernel
theorem dL_gap_0 : decode cL_gap 0 = .ok (.aload_n 0, 1) := by decide +kernel
theorem dL_gap_1 : decode cL_gap 1 = .ok (.iload_n 1, 1) := by decide +kernel
theorem dL_gap_2 : decode cL_gap 2 = .ok (.invokevirtual 75, 3) := by decide +kernel
theorem dL_gap_5 : decode cL_gap 5 = .ok (.ireturn, 1) := by decide +kernel
theorem dL_gap_6 : decode cL_gap 6 = .ok (.astore_n 2, 1) := by decide +kernel
theorem dL_gap_7 : decode cL_gap 7 = .ok (.bipush (-77), 2) := by decide +kernel
theorem dL_gap_9 : decode cL_gap 9 = .ok (.ireturn, 1) := by decide +kernel
theorem dL_widest_0 : decode cL_widest 0 = .ok (.aload_n 0, 1) := by decide +kernel
theorem dL_widest_1 : decode cL_widest 1 = .ok (.invokevirtual 78, 3) := by decide +kernel
theorem dL_widest_4 : decode cL_widest 4 = .ok (.ireturn, 1) := by decide +kernel
theorem dL_widest_5 : decode cL_widest 5 = .ok (.astore_n 1, 1) := by decide +kernel
theorem dL_widest_6 : decode cL_widest 6 = .ok (.bipush (-75), 2) := by decide +kernel
theorem dL_widest_8 : decode cL_widest 8 = .ok (.ireturn, 1) := by decide +kernel
theorem dL_stick_0 : decode cL_stick 0 = .ok (.aload_n 0, 1) := by decide +kernel
theorem dL_stick_1 : decode cL_stick 1 = .ok (.iload_n 1, 1) := by decide +kernel
theorem dL_stick_2 : decode cL_stick 2 = .ok (.iload_n 2, 1) := by decide +kernel
theorem dL_stick_3 : decode cL_stick 3 = .ok (.iload_n 3, 1) := by decide +kernel
theorem dL_stick_4 : decode cL_stick 4 = .ok (.invokevirtual 81, 3) := by decide +kernel
theorem dL_stick_7 : decode cL_stick 7 = .ok (.ireturn, 1) := by decide +kernel
theorem dL_stick_8 : decode cL_stick 8 = .ok (.astore 4, 2) := by decide +kernel
theorem dL_stick_10 : decode cL_stick 10 = .ok (.bipush (-78), 2) := by decide +kernel
theorem dL_stick_12 : decode cL_stick 12 = .ok (.ireturn, 1) := by decide +kernel
theorem dL_stick_13 : decode cL_stick 13 = .ok (.astore 4, 2) := by decide +kernel
theorem dL_stick_15 : decode cL_stick 15 = .ok (.bipush (-79), 2) := by decide +kernel
theorem dL_stick_17 : decode cL_stick 17 = .ok (.ireturn, 1) := by decide +kernel
theorem dL_piece_0 : decode cL_piece 0 = .ok (.aload_n 0, 1) := by decide +kernel
theorem dL_piece_1 : decode cL_piece 1 = .ok (.iload_n 1, 1) := by decide +kernel
theorem dL_piece_2 : decode cL_piece 2 = .ok (.invokevirtual 84, 3) := by decide +kernel
theorem dL_piece_5 : decode cL_piece 5 = .ok (.ireturn, 1) := by decide +kernel
theorem dL_piece_6 : decode cL_piece 6 = .ok (.astore_n 2, 1) := by decide +kernel
theorem dL_piece_7 : decode cL_piece 7 = .ok (.bipush (-77), 2) := by decide +kernel
theorem dL_piece_9 : decode cL_piece 9 = .ok (.ireturn, 1) := by decide +kernel
theorem dL_stickOf_0 : decode cL_stickOf 0 = .ok (.aload_n 0, 1) := by decide +kernel
theorem dL_stickOf_1 : decode cL_stickOf 1 = .ok (.iload_n 1, 1) := by decide +kernel
theorem dL_stickOf_2 : decode cL_stickOf 2 = .ok (.invokevirtual 87, 3) := by decide +kernel
theorem dL_stickOf_5 : decode cL_stickOf 5 = .ok (.ireturn, 1) := by decide +kernel
theorem dL_stickOf_6 : decode cL_stickOf 6 = .ok (.astore_n 2, 1) := by decide +kernel
theorem dL_stickOf_7 : decode cL_stickOf 7 = .ok (.bipush (-77), 2) := by decide +kernel
theorem dL_stickOf_9 : decode cL_stickOf 9 = .ok (.ireturn, 1) := by decide +kernel
theorem dL_stickOf_10 : decode cL_stickOf 10 = .ok (.astore_n 2, 1) := by decide +kernel
theorem dL_stickOf_11 : decode cL_stickOf 11 = .ok (.bipush (-75), 2) := by decide +kernel
theorem dL_stickOf_13 : decode cL_stickOf 13 = .ok (.ireturn, 1) := by decide +kernel
theorem dL_wood_0 : decode cL_wood 0 = .ok (.aload_n 0, 1) := by decide +kernel
theorem dL_wood_1 : decode cL_wood 1 = .ok (.invokevirtual 90, 3) := by decide +kernel
theorem dL_wood_4 : decode cL_wood 4 = .ok (.ireturn, 1) := by decide +kernel
theorem dL_wood_5 : decode cL_wood 5 = .ok (.astore_n 1, 1) := by decide +kernel
theorem dL_wood_6 : decode cL_wood 6 = .ok (.bipush (-75), 2) := by decide +kernel
theorem dL_wood_8 : decode cL_wood 8 = .ok (.ireturn, 1) := by decide +kernel
theorem dL_waste_0 : decode cL_waste 0 = .ok (.aload_n 0, 1) := by decide +kernel
theorem dL_waste_1 : decode cL_waste 1 = .ok (.iload_n 1, 1) := by decide +kernel
theorem dL_waste_2 : decode cL_waste 2 = .ok (.invokevirtual 93, 3) := by decide +kernel
theorem dL_waste_5 : decode cL_waste 5 = .ok (.ireturn, 1) := by decide +kernel
theorem dL_waste_6 : decode cL_waste 6 = .ok (.astore_n 2, 1) := by decide +kernel
theorem dL_waste_7 : decode cL_waste 7 = .ok (.bipush (-77), 2) := by decide +kernel
theorem dL_waste_9 : decode cL_waste 9 = .ok (.ireturn, 1) := by decide +kernel
theorem dL_waste_10 : decode cL_waste 10 = .ok (.astore_n 2, 1) := by decide +kernel
theorem dL_waste_11 : decode cL_waste 11 = .ok (.bipush (-75), 2) := by decide +kernel
theorem dL_waste_13 : decode cL_waste 13 = .ok (.ireturn, 1) := by decide +kernel
theorem dL_setProps_0 : decode cL_setProps 0 = .ok (.aload_n 0, 1) := by decide +kernel
theorem dL_setProps_1 : decode cL_setProps 1 = .ok (.iload_n 1, 1) := by decide +kernel
theorem dL_setProps_2 : decode cL_setProps 2 = .ok (.invokevirtual 96, 3) := by decide +kernel
theorem dL_setProps_5 : decode cL_setProps 5 = .ok (.ireturn, 1) := by decide +kernel
theorem dL_setProps_6 : decode cL_setProps 6 = .ok (.astore_n 2, 1) := by decide +kernel
theorem dL_setProps_7 : decode cL_setProps 7 = .ok (.bipush (-78), 2) := by decide +kernel
theorem dL_setProps_9 : decode cL_setProps 9 = .ok (.ireturn, 1) := by decide +kernel
theorem dL_raised_0 : decode cL_raised 0 = .ok (.aload_n 0, 1) := by decide +kernel
theorem dL_raised_1 : decode cL_raised 1 = .ok (.iload_n 1, 1) := by decide +kernel
theorem dL_raised_2 : decode cL_raised 2 = .ok (.invokevirtual 99, 3) := by decide +kernel
theorem dL_raised_5 : decode cL_raised 5 = .ok (.ireturn, 1) := by decide +kernel
theorem dL_raised_6 : decode cL_raised 6 = .ok (.astore_n 2, 1) := by decide +kernel
theorem dL_raised_7 : decode cL_raised 7 = .ok (.bipush (-75), 2) := by decide +kernel
theorem dL_raised_9 : decode cL_raised 9 = .ok (.ireturn, 1) := by decide +kernel
theorem dL_raised_10 : decode cL_raised 10 = .ok (.astore_n 2, 1) := by decide +kernel
theorem dL_raised_11 : decode cL_raised 11 = .ok (.bipush (-77), 2) := by decide +kernel
theorem dL_raised_13 : decode cL_raised 13 = .ok (.ireturn, 1) := by decide +kernel
theorem dL_props_0 : decode cL_props 0 = .ok (.aload_n 0, 1) := by decide +kernel
theorem dL_props_1 : decode cL_props 1 = .ok (.iload_n 1, 1) := by decide +kernel
theorem dL_props_2 : decode cL_props 2 = .ok (.invokevirtual 102, 3) := by decide +kernel
theorem dL_props_5 : decode cL_props 5 = .ok (.ireturn, 1) := by decide +kernel
theorem dL_props_6 : decode cL_props 6 = .ok (.astore_n 2, 1) := by decide +kernel
theorem dL_props_7 : decode cL_props 7 = .ok (.bipush (-75), 2) := by decide +kernel
theorem dL_props_9 : decode cL_props 9 = .ok (.ireturn, 1) := by decide +kernel
theorem dL_props_10 : decode cL_props 10 = .ok (.astore_n 2, 1) := by decide +kernel
theorem dL_props_11 : decode cL_props 11 = .ok (.bipush (-77), 2) := by decide +kernel
theorem dL_props_13 : decode cL_props 13 = .ok (.ireturn, 1) := by decide +kernel
theorem dL_stuck_0 : decode cL_stuck 0 = .ok (.aload_n 0, 1) := by decide +kernel
theorem dL_stuck_1 : decode cL_stuck 1 = .ok (.invokevirtual 105, 3) := by decide +kernel
theorem dL_stuck_4 : decode cL_stuck 4 = .ok (.ireturn, 1) := by decide +kernel
theorem dL_stuck_5 : decode cL_stuck 5 = .ok (.astore_n 1, 1) := by decide +kernel
theorem dL_stuck_6 : decode cL_stuck 6 = .ok (.bipush (-75), 2) := by decide +kernel
theorem dL_stuck_8 : decode cL_stuck 8 = .ok (.ireturn, 1) := by decide +kernel
theorem dL_allForce_0 : decode cL_allForce 0 = .ok (.aload_n 0, 1) := by decide +kernel
theorem dL_allForce_1 : decode cL_allForce 1 = .ok (.invokevirtual 108, 3) := by decide +kernel
theorem dL_allForce_4 : decode cL_allForce 4 = .ok (.lreturn, 1) := by decide +kernel
theorem dL_allForce_5 : decode cL_allForce 5 = .ok (.astore_n 1, 1) := by decide +kernel
theorem dL_allForce_6 : decode cL_allForce 6 = .ok (.ldc2_w 40, 3) := by decide +kernel
theorem dL_allForce_9 : decode cL_allForce 9 = .ok (.lreturn, 1) := by decide +kernel
theorem dL_rightShare_0 : decode cL_rightShare 0 = .ok (.aload_n 0, 1) := by decide +kernel
theorem dL_rightShare_1 : decode cL_rightShare 1 = .ok (.invokevirtual 112, 3) := by decide +kernel
theorem dL_rightShare_4 : decode cL_rightShare 4 = .ok (.freturn, 1) := by decide +kernel
theorem dL_rightShare_5 : decode cL_rightShare 5 = .ok (.astore_n 1, 1) := by decide +kernel
theorem dL_rightShare_6 : decode cL_rightShare 6 = .ok (.ldc 118, 2) := by decide +kernel
theorem dL_rightShare_8 : decode cL_rightShare 8 = .ok (.freturn, 1) := by decide +kernel
theorem dL_meanPull_0 : decode cL_meanPull 0 = .ok (.aload_n 0, 1) := by decide +kernel
theorem dL_meanPull_1 : decode cL_meanPull 1 = .ok (.invokevirtual 119, 3) := by decide +kernel
theorem dL_meanPull_4 : decode cL_meanPull 4 = .ok (.dreturn, 1) := by decide +kernel
theorem dL_meanPull_5 : decode cL_meanPull 5 = .ok (.astore_n 1, 1) := by decide +kernel
theorem dL_meanPull_6 : decode cL_meanPull 6 = .ok (.ldc2_w 123, 3) := by decide +kernel
theorem dL_meanPull_9 : decode cL_meanPull 9 = .ok (.dreturn, 1) := by decide +kernel
theorem dL_meanPull_10 : decode cL_meanPull 10 = .ok (.astore_n 1, 1) := by decide +kernel
theorem dL_meanPull_11 : decode cL_meanPull 11 = .ok (.ldc2_w 125, 3) := by decide +kernel
theorem dL_meanPull_14 : decode cL_meanPull 14 = .ok (.dreturn, 1) := by decide +kernel
theorem dL_law_0 : decode cL_law 0 = .ok (.new 15, 3) := by decide +kernel
theorem dL_law_3 : decode cL_law 3 = .ok (.dup, 1) := by decide +kernel
theorem dL_law_4 : decode cL_law 4 = .ok (.invokespecial 127, 3) := by decide +kernel
theorem dL_law_7 : decode cL_law 7 = .ok (.astore_n 1, 1) := by decide +kernel
theorem dL_law_8 : decode cL_law 8 = .ok (.iconst 1, 1) := by decide +kernel
theorem dL_law_9 : decode cL_law 9 = .ok (.istore_n 2, 1) := by decide +kernel
theorem dL_law_10 : decode cL_law 10 = .ok (.iconst 3, 1) := by decide +kernel
theorem dL_law_11 : decode cL_law 11 = .ok (.aload_n 0, 1) := by decide +kernel
theorem dL_law_12 : decode cL_law 12 = .ok (.iload_n 2, 1) := by decide +kernel
theorem dL_law_13 : decode cL_law 13 = .ok (.iconst 3, 1) := by decide +kernel
theorem dL_law_14 : decode cL_law 14 = .ok (.invokestatic 128, 3) := by decide +kernel
theorem dL_law_17 : decode cL_law 17 = .ok (.iadd, 1) := by decide +kernel
theorem dL_law_18 : decode cL_law 18 = .ok (.istore_n 3, 1) := by decide +kernel
theorem dL_law_19 : decode cL_law 19 = .ok (.iconst 1, 1) := by decide +kernel
theorem dL_law_20 : decode cL_law 20 = .ok (.istore 4, 2) := by decide +kernel
theorem dL_law_22 : decode cL_law 22 = .ok (.iconst 0, 1) := by decide +kernel
theorem dL_law_23 : decode cL_law 23 = .ok (.istore 5, 2) := by decide +kernel
theorem dL_law_25 : decode cL_law 25 = .ok (.iload 5, 2) := by decide +kernel
theorem dL_law_27 : decode cL_law 27 = .ok (.iload_n 3, 1) := by decide +kernel
theorem dL_law_28 : decode cL_law 28 = .ok (.if_icmp .ge 85, 3) := by decide +kernel
theorem dL_law_31 : decode cL_law 31 = .ok (.iload 4, 2) := by decide +kernel
theorem dL_law_33 : decode cL_law 33 = .ok (.aload_n 1, 1) := by decide +kernel
theorem dL_law_34 : decode cL_law 34 = .ok (.iconst 5, 1) := by decide +kernel
theorem dL_law_35 : decode cL_law 35 = .ok (.iload 5, 2) := by decide +kernel
theorem dL_law_37 : decode cL_law 37 = .ok (.imul, 1) := by decide +kernel
theorem dL_law_38 : decode cL_law 38 = .ok (.aload_n 0, 1) := by decide +kernel
theorem dL_law_39 : decode cL_law 39 = .ok (.iload_n 2, 1) := by decide +kernel
theorem dL_law_40 : decode cL_law 40 = .ok (.iconst 1, 1) := by decide +kernel
theorem dL_law_41 : decode cL_law 41 = .ok (.iadd, 1) := by decide +kernel
theorem dL_law_42 : decode cL_law 42 = .ok (.iconst 5, 1) := by decide +kernel
theorem dL_law_43 : decode cL_law 43 = .ok (.invokestatic 128, 3) := by decide +kernel
theorem dL_law_46 : decode cL_law 46 = .ok (.iadd, 1) := by decide +kernel
theorem dL_law_47 : decode cL_law 47 = .ok (.aload_n 0, 1) := by decide +kernel
theorem dL_law_48 : decode cL_law 48 = .ok (.iload_n 2, 1) := by decide +kernel
theorem dL_law_49 : decode cL_law 49 = .ok (.iconst 2, 1) := by decide +kernel
theorem dL_law_50 : decode cL_law 50 = .ok (.iadd, 1) := by decide +kernel
theorem dL_law_51 : decode cL_law 51 = .ok (.bipush 12, 2) := by decide +kernel
theorem dL_law_53 : decode cL_law 53 = .ok (.invokestatic 128, 3) := by decide +kernel
theorem dL_law_56 : decode cL_law 56 = .ok (.iload 5, 2) := by decide +kernel
theorem dL_law_58 : decode cL_law 58 = .ok (.ifCond .ne 8, 3) := by decide +kernel
theorem dL_law_61 : decode cL_law 61 = .ok (.bipush 112, 2) := by decide +kernel
theorem dL_law_63 : decode cL_law 63 = .ok (.goto 25, 3) := by decide +kernel
theorem dL_law_66 : decode cL_law 66 = .ok (.iload 5, 2) := by decide +kernel
theorem dL_law_68 : decode cL_law 68 = .ok (.iconst 1, 1) := by decide +kernel
theorem dL_law_69 : decode cL_law 69 = .ok (.if_icmp .ne 8, 3) := by decide +kernel
theorem dL_law_72 : decode cL_law 72 = .ok (.bipush 114, 2) := by decide +kernel
theorem dL_law_74 : decode cL_law 74 = .ok (.goto 14, 3) := by decide +kernel
theorem dL_law_77 : decode cL_law 77 = .ok (.ldc 132, 2) := by decide +kernel
theorem dL_law_79 : decode cL_law 79 = .ok (.aload_n 0, 1) := by decide +kernel
theorem dL_law_80 : decode cL_law 80 = .ok (.iload_n 2, 1) := by decide +kernel
theorem dL_law_81 : decode cL_law 81 = .ok (.iconst 3, 1) := by decide +kernel
theorem dL_law_82 : decode cL_law 82 = .ok (.invokestatic 128, 3) := by decide +kernel
theorem dL_law_85 : decode cL_law 85 = .ok (.invokevirtual 134, 3) := by decide +kernel
theorem dL_law_88 : decode cL_law 88 = .ok (.invokestatic 140, 3) := by decide +kernel
theorem dL_law_91 : decode cL_law 91 = .ok (.iload 5, 2) := by decide +kernel
theorem dL_law_93 : decode cL_law 93 = .ok (.if_icmp .ne 7, 3) := by decide +kernel
theorem dL_law_96 : decode cL_law 96 = .ok (.iconst 1, 1) := by decide +kernel
theorem dL_law_97 : decode cL_law 97 = .ok (.goto 4, 3) := by decide +kernel
theorem dL_law_100 : decode cL_law 100 = .ok (.iconst 0, 1) := by decide +kernel
theorem dL_law_101 : decode cL_law 101 = .ok (.iand, 1) := by decide +kernel
theorem dL_law_102 : decode cL_law 102 = .ok (.istore 4, 2) := by decide +kernel
theorem dL_law_104 : decode cL_law 104 = .ok (.iinc 2 3, 3) := by decide +kernel
theorem dL_law_107 : decode cL_law 107 = .ok (.iinc 5 1, 3) := by decide +kernel
theorem dL_law_110 : decode cL_law 110 = .ok (.goto (-85), 3) := by decide +kernel
theorem dL_law_113 : decode cL_law 113 = .ok (.iconst 0, 1) := by decide +kernel
theorem dL_law_114 : decode cL_law 114 = .ok (.istore 5, 2) := by decide +kernel
theorem dL_law_116 : decode cL_law 116 = .ok (.iconst 0, 1) := by decide +kernel
theorem dL_law_117 : decode cL_law 117 = .ok (.istore 6, 2) := by decide +kernel
theorem dL_law_119 : decode cL_law 119 = .ok (.iconst 0, 1) := by decide +kernel
theorem dL_law_120 : decode cL_law 120 = .ok (.istore 7, 2) := by decide +kernel
theorem dL_law_122 : decode cL_law 122 = .ok (.iconst 0, 1) := by decide +kernel
theorem dL_law_123 : decode cL_law 123 = .ok (.istore 8, 2) := by decide +kernel
theorem dL_law_125 : decode cL_law 125 = .ok (.iload 8, 2) := by decide +kernel
theorem dL_law_127 : decode cL_law 127 = .ok (.bipush 34, 2) := by decide +kernel
theorem dL_law_129 : decode cL_law 129 = .ok (.if_icmp .ge 525, 3) := by decide +kernel
theorem dL_law_132 : decode cL_law 132 = .ok (.iload 4, 2) := by decide +kernel
theorem dL_law_134 : decode cL_law 134 = .ok (.ifCond .eq 520, 3) := by decide +kernel
theorem dL_law_137 : decode cL_law 137 = .ok (.aload_n 0, 1) := by decide +kernel
theorem dL_law_138 : decode cL_law 138 = .ok (.iload_n 2, 1) := by decide +kernel
theorem dL_law_139 : decode cL_law 139 = .ok (.iconst 1, 1) := by decide +kernel
theorem dL_law_140 : decode cL_law 140 = .ok (.iadd, 1) := by decide +kernel
theorem dL_law_141 : decode cL_law 141 = .ok (.bipush 8, 2) := by decide +kernel
theorem dL_law_143 : decode cL_law 143 = .ok (.invokestatic 128, 3) := by decide +kernel
theorem dL_law_146 : decode cL_law 146 = .ok (.istore 9, 2) := by decide +kernel
theorem dL_law_148 : decode cL_law 148 = .ok (.aload_n 0, 1) := by decide +kernel
theorem dL_law_149 : decode cL_law 149 = .ok (.iload_n 2, 1) := by decide +kernel
theorem dL_law_150 : decode cL_law 150 = .ok (.iconst 2, 1) := by decide +kernel
theorem dL_law_151 : decode cL_law 151 = .ok (.iadd, 1) := by decide +kernel
theorem dL_law_152 : decode cL_law 152 = .ok (.bipush 8, 2) := by decide +kernel
theorem dL_law_154 : decode cL_law 154 = .ok (.invokestatic 128, 3) := by decide +kernel
theorem dL_law_157 : decode cL_law 157 = .ok (.istore 10, 2) := by decide +kernel
theorem dL_law_159 : decode cL_law 159 = .ok (.aload_n 0, 1) := by decide +kernel
theorem dL_law_160 : decode cL_law 160 = .ok (.iload_n 2, 1) := by decide +kernel
theorem dL_law_161 : decode cL_law 161 = .ok (.bipush 9, 2) := by decide +kernel
theorem dL_law_163 : decode cL_law 163 = .ok (.invokestatic 128, 3) := by decide +kernel
theorem dL_law_166 : decode cL_law 166 = .ok (.tableswitch 368 0 7 #[46, 46, 46, 138, 178, 178, 271, 344], 46) := by decide +kernel
theorem dL_law_212 : decode cL_law 212 = .ok (.aload_n 1, 1) := by decide +kernel
theorem dL_law_213 : decode cL_law 213 = .ok (.iload 9, 2) := by decide +kernel
theorem dL_law_215 : decode cL_law 215 = .ok (.iload_n 3, 1) := by decide +kernel
theorem dL_law_216 : decode cL_law 216 = .ok (.irem, 1) := by decide +kernel
theorem dL_law_217 : decode cL_law 217 = .ok (.iload 10, 2) := by decide +kernel
theorem dL_law_219 : decode cL_law 219 = .ok (.iload_n 3, 1) := by decide +kernel
theorem dL_law_220 : decode cL_law 220 = .ok (.irem, 1) := by decide +kernel
theorem dL_law_221 : decode cL_law 221 = .ok (.bipush 6, 2) := by decide +kernel
theorem dL_law_223 : decode cL_law 223 = .ok (.iconst 2, 1) := by decide +kernel
theorem dL_law_224 : decode cL_law 224 = .ok (.iload 9, 2) := by decide +kernel
theorem dL_law_226 : decode cL_law 226 = .ok (.imul, 1) := by decide +kernel
theorem dL_law_227 : decode cL_law 227 = .ok (.iadd, 1) := by decide +kernel
theorem dL_law_228 : decode cL_law 228 = .ok (.iload 10, 2) := by decide +kernel
theorem dL_law_230 : decode cL_law 230 = .ok (.iconst 4, 1) := by decide +kernel
theorem dL_law_231 : decode cL_law 231 = .ok (.irem, 1) := by decide +kernel
theorem dL_law_232 : decode cL_law 232 = .ok (.invokestatic 143, 3) := by decide +kernel
theorem dL_law_235 : decode cL_law 235 = .ok (.istore 11, 2) := by decide +kernel
theorem dL_law_237 : decode cL_law 237 = .ok (.iload 4, 2) := by decide +kernel
theorem dL_law_239 : decode cL_law 239 = .ok (.iload 11, 2) := by decide +kernel
theorem dL_law_241 : decode cL_law 241 = .ok (.iload 5, 2) := by decide +kernel
theorem dL_law_243 : decode cL_law 243 = .ok (.if_icmp .eq 35, 3) := by decide +kernel
theorem dL_law_246 : decode cL_law 246 = .ok (.iload 11, 2) := by decide +kernel
theorem dL_law_248 : decode cL_law 248 = .ok (.bipush (-79), 2) := by decide +kernel
theorem dL_law_250 : decode cL_law 250 = .ok (.if_icmp .ne 10, 3) := by decide +kernel
theorem dL_law_253 : decode cL_law 253 = .ok (.iload 5, 2) := by decide +kernel
theorem dL_law_255 : decode cL_law 255 = .ok (.bipush 9, 2) := by decide +kernel
theorem dL_law_257 : decode cL_law 257 = .ok (.if_icmp .eq 21, 3) := by decide +kernel
theorem dL_law_260 : decode cL_law 260 = .ok (.iload 11, 2) := by decide +kernel
theorem dL_law_262 : decode cL_law 262 = .ok (.bipush (-78), 2) := by decide +kernel
theorem dL_law_264 : decode cL_law 264 = .ok (.if_icmp .ne 18, 3) := by decide +kernel
theorem dL_law_267 : decode cL_law 267 = .ok (.iload 9, 2) := by decide +kernel
theorem dL_law_269 : decode cL_law 269 = .ok (.iload_n 3, 1) := by decide +kernel
theorem dL_law_270 : decode cL_law 270 = .ok (.irem, 1) := by decide +kernel
theorem dL_law_271 : decode cL_law 271 = .ok (.iload 10, 2) := by decide +kernel
theorem dL_law_273 : decode cL_law 273 = .ok (.iload_n 3, 1) := by decide +kernel
theorem dL_law_274 : decode cL_law 274 = .ok (.irem, 1) := by decide +kernel
theorem dL_law_275 : decode cL_law 275 = .ok (.if_icmp .ne 7, 3) := by decide +kernel
theorem dL_law_278 : decode cL_law 278 = .ok (.iconst 1, 1) := by decide +kernel
theorem dL_law_279 : decode cL_law 279 = .ok (.goto 4, 3) := by decide +kernel
theorem dL_law_282 : decode cL_law 282 = .ok (.iconst 0, 1) := by decide +kernel
theorem dL_law_283 : decode cL_law 283 = .ok (.iand, 1) := by decide +kernel
theorem dL_law_284 : decode cL_law 284 = .ok (.istore 4, 2) := by decide +kernel
theorem dL_law_286 : decode cL_law 286 = .ok (.iload 5, 2) := by decide +kernel
theorem dL_law_288 : decode cL_law 288 = .ok (.iload 11, 2) := by decide +kernel
theorem dL_law_290 : decode cL_law 290 = .ok (.ifCond .lt 7, 3) := by decide +kernel
theorem dL_law_293 : decode cL_law 293 = .ok (.iconst 1, 1) := by decide +kernel
theorem dL_law_294 : decode cL_law 294 = .ok (.goto 4, 3) := by decide +kernel
theorem dL_law_297 : decode cL_law 297 = .ok (.iconst 0, 1) := by decide +kernel
theorem dL_law_298 : decode cL_law 298 = .ok (.iadd, 1) := by decide +kernel
theorem dL_law_299 : decode cL_law 299 = .ok (.istore 5, 2) := by decide +kernel
theorem dL_law_301 : decode cL_law 301 = .ok (.goto 286, 3) := by decide +kernel
theorem dL_law_304 : decode cL_law 304 = .ok (.iload 4, 2) := by decide +kernel
theorem dL_law_306 : decode cL_law 306 = .ok (.aload_n 1, 1) := by decide +kernel
theorem dL_law_307 : decode cL_law 307 = .ok (.iload 9, 2) := by decide +kernel
theorem dL_law_309 : decode cL_law 309 = .ok (.iload_n 3, 1) := by decide +kernel
theorem dL_law_310 : decode cL_law 310 = .ok (.irem, 1) := by decide +kernel
theorem dL_law_311 : decode cL_law 311 = .ok (.bipush 9, 2) := by decide +kernel
theorem dL_law_313 : decode cL_law 313 = .ok (.iload 10, 2) := by decide +kernel
theorem dL_law_315 : decode cL_law 315 = .ok (.imul, 1) := by decide +kernel
theorem dL_law_316 : decode cL_law 316 = .ok (.bipush 30, 2) := by decide +kernel
theorem dL_law_318 : decode cL_law 318 = .ok (.isub, 1) := by decide +kernel
theorem dL_law_319 : decode cL_law 319 = .ok (.bipush 7, 2) := by decide +kernel
theorem dL_law_321 : decode cL_law 321 = .ok (.iload 9, 2) := by decide +kernel
theorem dL_law_323 : decode cL_law 323 = .ok (.imul, 1) := by decide +kernel
theorem dL_law_324 : decode cL_law 324 = .ok (.bipush 20, 2) := by decide +kernel
theorem dL_law_326 : decode cL_law 326 = .ok (.isub, 1) := by decide +kernel
theorem dL_law_327 : decode cL_law 327 = .ok (.invokestatic 146, 3) := by decide +kernel
theorem dL_law_330 : decode cL_law 330 = .ok (.ifCond .le 7, 3) := by decide +kernel
theorem dL_law_333 : decode cL_law 333 = .ok (.iconst 1, 1) := by decide +kernel
theorem dL_law_334 : decode cL_law 334 = .ok (.goto 4, 3) := by decide +kernel
theorem dL_law_337 : decode cL_law 337 = .ok (.iconst 0, 1) := by decide +kernel
theorem dL_law_338 : decode cL_law 338 = .ok (.iand, 1) := by decide +kernel
theorem dL_law_339 : decode cL_law 339 = .ok (.istore 4, 2) := by decide +kernel
theorem dL_law_341 : decode cL_law 341 = .ok (.goto 246, 3) := by decide +kernel
theorem dL_law_344 : decode cL_law 344 = .ok (.iload 5, 2) := by decide +kernel
theorem dL_law_346 : decode cL_law 346 = .ok (.iconst 2, 1) := by decide +kernel
theorem dL_law_347 : decode cL_law 347 = .ok (.if_icmp .ge 8, 3) := by decide +kernel
theorem dL_law_350 : decode cL_law 350 = .ok (.bipush (-76), 2) := by decide +kernel
theorem dL_law_352 : decode cL_law 352 = .ok (.goto 43, 3) := by decide +kernel
theorem dL_law_355 : decode cL_law 355 = .ok (.aload_n 1, 1) := by decide +kernel
theorem dL_law_356 : decode cL_law 356 = .ok (.iload 9, 2) := by decide +kernel
theorem dL_law_358 : decode cL_law 358 = .ok (.iload 5, 2) := by decide +kernel
theorem dL_law_360 : decode cL_law 360 = .ok (.irem, 1) := by decide +kernel
theorem dL_law_361 : decode cL_law 361 = .ok (.iload 10, 2) := by decide +kernel
theorem dL_law_363 : decode cL_law 363 = .ok (.iload 5, 2) := by decide +kernel
theorem dL_law_365 : decode cL_law 365 = .ok (.irem, 1) := by decide +kernel
theorem dL_law_366 : decode cL_law 366 = .ok (.ldc 149, 2) := by decide +kernel
theorem dL_law_368 : decode cL_law 368 = .ok (.aload_n 0, 1) := by decide +kernel
theorem dL_law_369 : decode cL_law 369 = .ok (.iload_n 2, 1) := by decide +kernel
theorem dL_law_370 : decode cL_law 370 = .ok (.iconst 3, 1) := by decide +kernel
theorem dL_law_371 : decode cL_law 371 = .ok (.iadd, 1) := by decide +kernel
theorem dL_law_372 : decode cL_law 372 = .ok (.iconst 5, 1) := by decide +kernel
theorem dL_law_373 : decode cL_law 373 = .ok (.invokestatic 128, 3) := by decide +kernel
theorem dL_law_376 : decode cL_law 376 = .ok (.invokevirtual 134, 3) := by decide +kernel
theorem dL_law_379 : decode cL_law 379 = .ok (.iconst 2, 1) := by decide +kernel
theorem dL_law_380 : decode cL_law 380 = .ok (.iload 10, 2) := by decide +kernel
theorem dL_law_382 : decode cL_law 382 = .ok (.iadd, 1) := by decide +kernel
theorem dL_law_383 : decode cL_law 383 = .ok (.iconst 1, 1) := by decide +kernel
theorem dL_law_384 : decode cL_law 384 = .ok (.iconst 4, 1) := by decide +kernel
theorem dL_law_385 : decode cL_law 385 = .ok (.iload 9, 2) := by decide +kernel
theorem dL_law_387 : decode cL_law 387 = .ok (.imul, 1) := by decide +kernel
theorem dL_law_388 : decode cL_law 388 = .ok (.bipush 31, 2) := by decide +kernel
theorem dL_law_390 : decode cL_law 390 = .ok (.irem, 1) := by decide +kernel
theorem dL_law_391 : decode cL_law 391 = .ok (.iadd, 1) := by decide +kernel
theorem dL_law_392 : decode cL_law 392 = .ok (.invokestatic 151, 3) := by decide +kernel
theorem dL_law_395 : decode cL_law 395 = .ok (.istore 11, 2) := by decide +kernel
theorem dL_law_397 : decode cL_law 397 = .ok (.iload 4, 2) := by decide +kernel
theorem dL_law_399 : decode cL_law 399 = .ok (.iload 11, 2) := by decide +kernel
theorem dL_law_401 : decode cL_law 401 = .ok (.ifCond .lt 10, 3) := by decide +kernel
theorem dL_law_404 : decode cL_law 404 = .ok (.iload 11, 2) := by decide +kernel
theorem dL_law_406 : decode cL_law 406 = .ok (.iload 6, 2) := by decide +kernel
theorem dL_law_408 : decode cL_law 408 = .ok (.if_icmp .ne 7, 3) := by decide +kernel
theorem dL_law_411 : decode cL_law 411 = .ok (.iconst 1, 1) := by decide +kernel
theorem dL_law_412 : decode cL_law 412 = .ok (.goto 4, 3) := by decide +kernel
theorem dL_law_415 : decode cL_law 415 = .ok (.iconst 0, 1) := by decide +kernel
theorem dL_law_416 : decode cL_law 416 = .ok (.iand, 1) := by decide +kernel
theorem dL_law_417 : decode cL_law 417 = .ok (.istore 4, 2) := by decide +kernel
theorem dL_law_419 : decode cL_law 419 = .ok (.iload 6, 2) := by decide +kernel
theorem dL_law_421 : decode cL_law 421 = .ok (.iload 11, 2) := by decide +kernel
theorem dL_law_423 : decode cL_law 423 = .ok (.ifCond .lt 7, 3) := by decide +kernel
theorem dL_law_426 : decode cL_law 426 = .ok (.iconst 1, 1) := by decide +kernel
theorem dL_law_427 : decode cL_law 427 = .ok (.goto 4, 3) := by decide +kernel
theorem dL_law_430 : decode cL_law 430 = .ok (.iconst 0, 1) := by decide +kernel
theorem dL_law_431 : decode cL_law 431 = .ok (.iadd, 1) := by decide +kernel
theorem dL_law_432 : decode cL_law 432 = .ok (.istore 6, 2) := by decide +kernel
theorem dL_law_434 : decode cL_law 434 = .ok (.goto 153, 3) := by decide +kernel
theorem dL_law_437 : decode cL_law 437 = .ok (.aload_n 1, 1) := by decide +kernel
theorem dL_law_438 : decode cL_law 438 = .ok (.bipush 100, 2) := by decide +kernel
theorem dL_law_440 : decode cL_law 440 = .ok (.bipush 100, 2) := by decide +kernel
theorem dL_law_442 : decode cL_law 442 = .ok (.iload 9, 2) := by decide +kernel
theorem dL_law_444 : decode cL_law 444 = .ok (.imul, 1) := by decide +kernel
theorem dL_law_445 : decode cL_law 445 = .ok (.iadd, 1) := by decide +kernel
theorem dL_law_446 : decode cL_law 446 = .ok (.bipush 10, 2) := by decide +kernel
theorem dL_law_448 : decode cL_law 448 = .ok (.iconst 4, 1) := by decide +kernel
theorem dL_law_449 : decode cL_law 449 = .ok (.iload 10, 2) := by decide +kernel
theorem dL_law_451 : decode cL_law 451 = .ok (.imul, 1) := by decide +kernel
theorem dL_law_452 : decode cL_law 452 = .ok (.iadd, 1) := by decide +kernel
theorem dL_law_453 : decode cL_law 453 = .ok (.iload 10, 2) := by decide +kernel
theorem dL_law_455 : decode cL_law 455 = .ok (.iconst 4, 1) := by decide +kernel
theorem dL_law_456 : decode cL_law 456 = .ok (.irem, 1) := by decide +kernel
theorem dL_law_457 : decode cL_law 457 = .ok (.invokestatic 154, 3) := by decide +kernel
theorem dL_law_460 : decode cL_law 460 = .ok (.istore 11, 2) := by decide +kernel
theorem dL_law_462 : decode cL_law 462 = .ok (.iload 4, 2) := by decide +kernel
theorem dL_law_464 : decode cL_law 464 = .ok (.iload 11, 2) := by decide +kernel
theorem dL_law_466 : decode cL_law 466 = .ok (.iload 7, 2) := by decide +kernel
theorem dL_law_468 : decode cL_law 468 = .ok (.if_icmp .eq 16, 3) := by decide +kernel
theorem dL_law_471 : decode cL_law 471 = .ok (.iload 11, 2) := by decide +kernel
theorem dL_law_473 : decode cL_law 473 = .ok (.bipush (-79), 2) := by decide +kernel
theorem dL_law_475 : decode cL_law 475 = .ok (.if_icmp .ne 13, 3) := by decide +kernel
theorem dL_law_478 : decode cL_law 478 = .ok (.iload 7, 2) := by decide +kernel
theorem dL_law_480 : decode cL_law 480 = .ok (.iconst 5, 1) := by decide +kernel
theorem dL_law_481 : decode cL_law 481 = .ok (.if_icmp .ne 7, 3) := by decide +kernel
theorem dL_law_484 : decode cL_law 484 = .ok (.iconst 1, 1) := by decide +kernel
theorem dL_law_485 : decode cL_law 485 = .ok (.goto 4, 3) := by decide +kernel
theorem dL_law_488 : decode cL_law 488 = .ok (.iconst 0, 1) := by decide +kernel
theorem dL_law_489 : decode cL_law 489 = .ok (.iand, 1) := by decide +kernel
theorem dL_law_490 : decode cL_law 490 = .ok (.istore 4, 2) := by decide +kernel
theorem dL_law_492 : decode cL_law 492 = .ok (.iload 7, 2) := by decide +kernel
theorem dL_law_494 : decode cL_law 494 = .ok (.iload 11, 2) := by decide +kernel
theorem dL_law_496 : decode cL_law 496 = .ok (.ifCond .lt 7, 3) := by decide +kernel
theorem dL_law_499 : decode cL_law 499 = .ok (.iconst 1, 1) := by decide +kernel
theorem dL_law_500 : decode cL_law 500 = .ok (.goto 4, 3) := by decide +kernel
theorem dL_law_503 : decode cL_law 503 = .ok (.iconst 0, 1) := by decide +kernel
theorem dL_law_504 : decode cL_law 504 = .ok (.iadd, 1) := by decide +kernel
theorem dL_law_505 : decode cL_law 505 = .ok (.istore 7, 2) := by decide +kernel
theorem dL_law_507 : decode cL_law 507 = .ok (.goto 80, 3) := by decide +kernel
theorem dL_law_510 : decode cL_law 510 = .ok (.iload 4, 2) := by decide +kernel
theorem dL_law_512 : decode cL_law 512 = .ok (.aload_n 1, 1) := by decide +kernel
theorem dL_law_513 : decode cL_law 513 = .ok (.iload 9, 2) := by decide +kernel
theorem dL_law_515 : decode cL_law 515 = .ok (.iconst 4, 1) := by decide +kernel
theorem dL_law_516 : decode cL_law 516 = .ok (.irem, 1) := by decide +kernel
theorem dL_law_517 : decode cL_law 517 = .ok (.invokestatic 156, 3) := by decide +kernel
theorem dL_law_520 : decode cL_law 520 = .ok (.ifCond .lt 7, 3) := by decide +kernel
theorem dL_law_523 : decode cL_law 523 = .ok (.iconst 1, 1) := by decide +kernel
theorem dL_law_524 : decode cL_law 524 = .ok (.goto 4, 3) := by decide +kernel
theorem dL_law_527 : decode cL_law 527 = .ok (.iconst 0, 1) := by decide +kernel
theorem dL_law_528 : decode cL_law 528 = .ok (.iand, 1) := by decide +kernel
theorem dL_law_529 : decode cL_law 529 = .ok (.istore 4, 2) := by decide +kernel
theorem dL_law_531 : decode cL_law 531 = .ok (.goto 56, 3) := by decide +kernel
theorem dL_law_534 : decode cL_law 534 = .ok (.iload 4, 2) := by decide +kernel
theorem dL_law_536 : decode cL_law 536 = .ok (.iload 5, 2) := by decide +kernel
theorem dL_law_538 : decode cL_law 538 = .ok (.ifCond .eq 41, 3) := by decide +kernel
theorem dL_law_541 : decode cL_law 541 = .ok (.aload_n 1, 1) := by decide +kernel
theorem dL_law_542 : decode cL_law 542 = .ok (.iload 9, 2) := by decide +kernel
theorem dL_law_544 : decode cL_law 544 = .ok (.iload 5, 2) := by decide +kernel
theorem dL_law_546 : decode cL_law 546 = .ok (.irem, 1) := by decide +kernel
theorem dL_law_547 : decode cL_law 547 = .ok (.bipush 20, 2) := by decide +kernel
theorem dL_law_549 : decode cL_law 549 = .ok (.iconst 5, 1) := by decide +kernel
theorem dL_law_550 : decode cL_law 550 = .ok (.iload 10, 2) := by decide +kernel
theorem dL_law_552 : decode cL_law 552 = .ok (.imul, 1) := by decide +kernel
theorem dL_law_553 : decode cL_law 553 = .ok (.iadd, 1) := by decide +kernel
theorem dL_law_554 : decode cL_law 554 = .ok (.invokestatic 159, 3) := by decide +kernel
theorem dL_law_557 : decode cL_law 557 = .ok (.ifCond .le 26, 3) := by decide +kernel
theorem dL_law_560 : decode cL_law 560 = .ok (.aload_n 1, 1) := by decide +kernel
theorem dL_law_561 : decode cL_law 561 = .ok (.iload 10, 2) := by decide +kernel
theorem dL_law_563 : decode cL_law 563 = .ok (.iload 5, 2) := by decide +kernel
theorem dL_law_565 : decode cL_law 565 = .ok (.irem, 1) := by decide +kernel
theorem dL_law_566 : decode cL_law 566 = .ok (.bipush 10, 2) := by decide +kernel
theorem dL_law_568 : decode cL_law 568 = .ok (.iconst 3, 1) := by decide +kernel
theorem dL_law_569 : decode cL_law 569 = .ok (.iload 9, 2) := by decide +kernel
theorem dL_law_571 : decode cL_law 571 = .ok (.imul, 1) := by decide +kernel
theorem dL_law_572 : decode cL_law 572 = .ok (.iadd, 1) := by decide +kernel
theorem dL_law_573 : decode cL_law 573 = .ok (.invokestatic 162, 3) := by decide +kernel
theorem dL_law_576 : decode cL_law 576 = .ok (.ifCond .le 7, 3) := by decide +kernel
theorem dL_law_579 : decode cL_law 579 = .ok (.iconst 1, 1) := by decide +kernel
theorem dL_law_580 : decode cL_law 580 = .ok (.goto 4, 3) := by decide +kernel
theorem dL_law_583 : decode cL_law 583 = .ok (.iconst 0, 1) := by decide +kernel
theorem dL_law_584 : decode cL_law 584 = .ok (.iand, 1) := by decide +kernel
theorem dL_law_585 : decode cL_law 585 = .ok (.istore 4, 2) := by decide +kernel
theorem dL_law_587 : decode cL_law 587 = .ok (.iload 4, 2) := by decide +kernel
theorem dL_law_589 : decode cL_law 589 = .ok (.ifCond .eq 53, 3) := by decide +kernel
theorem dL_law_592 : decode cL_law 592 = .ok (.aload_n 1, 1) := by decide +kernel
theorem dL_law_593 : decode cL_law 593 = .ok (.iload_n 3, 1) := by decide +kernel
theorem dL_law_594 : decode cL_law 594 = .ok (.iload 5, 2) := by decide +kernel
theorem dL_law_596 : decode cL_law 596 = .ok (.invokestatic 164, 3) := by decide +kernel
theorem dL_law_599 : decode cL_law 599 = .ok (.ifCond .eq 43, 3) := by decide +kernel
theorem dL_law_602 : decode cL_law 602 = .ok (.aload_n 1, 1) := by decide +kernel
theorem dL_law_603 : decode cL_law 603 = .ok (.iload 6, 2) := by decide +kernel
theorem dL_law_605 : decode cL_law 605 = .ok (.invokestatic 168, 3) := by decide +kernel
theorem dL_law_608 : decode cL_law 608 = .ok (.ifCond .eq 34, 3) := by decide +kernel
theorem dL_law_611 : decode cL_law 611 = .ok (.aload_n 1, 1) := by decide +kernel
theorem dL_law_612 : decode cL_law 612 = .ok (.iload 5, 2) := by decide +kernel
theorem dL_law_614 : decode cL_law 614 = .ok (.iload 7, 2) := by decide +kernel
theorem dL_law_616 : decode cL_law 616 = .ok (.invokestatic 172, 3) := by decide +kernel
theorem dL_law_619 : decode cL_law 619 = .ok (.ifCond .eq 23, 3) := by decide +kernel
theorem dL_law_622 : decode cL_law 622 = .ok (.aload_n 1, 1) := by decide +kernel
theorem dL_law_623 : decode cL_law 623 = .ok (.iload 5, 2) := by decide +kernel
theorem dL_law_625 : decode cL_law 625 = .ok (.invokestatic 175, 3) := by decide +kernel
theorem dL_law_628 : decode cL_law 628 = .ok (.ifCond .eq 14, 3) := by decide +kernel
theorem dL_law_631 : decode cL_law 631 = .ok (.aload_n 1, 1) := by decide +kernel
theorem dL_law_632 : decode cL_law 632 = .ok (.invokevirtual 178, 3) := by decide +kernel
theorem dL_law_635 : decode cL_law 635 = .ok (.ifCond .eq 7, 3) := by decide +kernel
theorem dL_law_638 : decode cL_law 638 = .ok (.iconst 1, 1) := by decide +kernel
theorem dL_law_639 : decode cL_law 639 = .ok (.goto 4, 3) := by decide +kernel
theorem dL_law_642 : decode cL_law 642 = .ok (.iconst 0, 1) := by decide +kernel
theorem dL_law_643 : decode cL_law 643 = .ok (.istore 4, 2) := by decide +kernel
theorem dL_law_645 : decode cL_law 645 = .ok (.iinc 2 4, 3) := by decide +kernel
theorem dL_law_648 : decode cL_law 648 = .ok (.iinc 8 1, 3) := by decide +kernel
theorem dL_law_651 : decode cL_law 651 = .ok (.goto (-526), 3) := by decide +kernel
theorem dL_law_654 : decode cL_law 654 = .ok (.iload 4, 2) := by decide +kernel
theorem dL_law_656 : decode cL_law 656 = .ok (.ifCond .eq 14, 3) := by decide +kernel
theorem dL_law_659 : decode cL_law 659 = .ok (.aload_n 1, 1) := by decide +kernel
theorem dL_law_660 : decode cL_law 660 = .ok (.invokestatic 182, 3) := by decide +kernel
theorem dL_law_663 : decode cL_law 663 = .ok (.ifCond .eq 7, 3) := by decide +kernel
theorem dL_law_666 : decode cL_law 666 = .ok (.iconst 1, 1) := by decide +kernel
theorem dL_law_667 : decode cL_law 667 = .ok (.goto 4, 3) := by decide +kernel
theorem dL_law_670 : decode cL_law 670 = .ok (.iconst 0, 1) := by decide +kernel
theorem dL_law_671 : decode cL_law 671 = .ok (.ireturn, 1) := by decide +kernel
theorem dL_isFrame_0 : decode cL_isFrame 0 = .ok (.aload_n 0, 1) := by decide +kernel
theorem dL_isFrame_1 : decode cL_isFrame 1 = .ok (.invokevirtual 186, 3) := by decide +kernel
theorem dL_isFrame_4 : decode cL_isFrame 4 = .ok (.istore_n 3, 1) := by decide +kernel
theorem dL_isFrame_5 : decode cL_isFrame 5 = .ok (.ldc 190, 2) := by decide +kernel
theorem dL_isFrame_7 : decode cL_isFrame 7 = .ok (.iload_n 3, 1) := by decide +kernel
theorem dL_isFrame_8 : decode cL_isFrame 8 = .ok (.invokevirtual 192, 3) := by decide +kernel
theorem dL_isFrame_11 : decode cL_isFrame 11 = .ok (.ifCond .lt 7, 3) := by decide +kernel
theorem dL_isFrame_14 : decode cL_isFrame 14 = .ok (.iconst 1, 1) := by decide +kernel
theorem dL_isFrame_15 : decode cL_isFrame 15 = .ok (.goto 4, 3) := by decide +kernel
theorem dL_isFrame_18 : decode cL_isFrame 18 = .ok (.iconst 0, 1) := by decide +kernel
theorem dL_isFrame_19 : decode cL_isFrame 19 = .ok (.istore 4, 2) := by decide +kernel
theorem dL_isFrame_21 : decode cL_isFrame 21 = .ok (.iload_n 3, 1) := by decide +kernel
theorem dL_isFrame_22 : decode cL_isFrame 22 = .ok (.bipush 46, 2) := by decide +kernel
theorem dL_isFrame_24 : decode cL_isFrame 24 = .ok (.if_icmp .eq 55, 3) := by decide +kernel
theorem dL_isFrame_27 : decode cL_isFrame 27 = .ok (.iload 4, 2) := by decide +kernel
theorem dL_isFrame_29 : decode cL_isFrame 29 = .ok (.ifCond .eq 48, 3) := by decide +kernel
theorem dL_isFrame_32 : decode cL_isFrame 32 = .ok (.aload_n 0, 1) := by decide +kernel
theorem dL_isFrame_33 : decode cL_isFrame 33 = .ok (.invokestatic 195, 3) := by decide +kernel
theorem dL_isFrame_36 : decode cL_isFrame 36 = .ok (.ldc2_w 40, 3) := by decide +kernel
theorem dL_isFrame_39 : decode cL_isFrame 39 = .ok (.lcmp, 1) := by decide +kernel
theorem dL_isFrame_40 : decode cL_isFrame 40 = .ok (.ifCond .ne 37, 3) := by decide +kernel
theorem dL_isFrame_43 : decode cL_isFrame 43 = .ok (.aload_n 0, 1) := by decide +kernel
theorem dL_isFrame_44 : decode cL_isFrame 44 = .ok (.invokestatic 198, 3) := by decide +kernel
theorem dL_isFrame_47 : decode cL_isFrame 47 = .ok (.bipush (-79), 2) := by decide +kernel
theorem dL_isFrame_49 : decode cL_isFrame 49 = .ok (.if_icmp .ne 28, 3) := by decide +kernel
theorem dL_isFrame_52 : decode cL_isFrame 52 = .ok (.aload_n 0, 1) := by decide +kernel
theorem dL_isFrame_53 : decode cL_isFrame 53 = .ok (.iconst 3, 1) := by decide +kernel
theorem dL_isFrame_54 : decode cL_isFrame 54 = .ok (.invokestatic 201, 3) := by decide +kernel
theorem dL_isFrame_57 : decode cL_isFrame 57 = .ok (.bipush (-79), 2) := by decide +kernel
theorem dL_isFrame_59 : decode cL_isFrame 59 = .ok (.if_icmp .ne 18, 3) := by decide +kernel
theorem dL_isFrame_62 : decode cL_isFrame 62 = .ok (.aload_n 0, 1) := by decide +kernel
theorem dL_isFrame_63 : decode cL_isFrame 63 = .ok (.invokestatic 203, 3) := by decide +kernel
theorem dL_isFrame_66 : decode cL_isFrame 66 = .ok (.ldc2_w 123, 3) := by decide +kernel
theorem dL_isFrame_69 : decode cL_isFrame 69 = .ok (.dcmp .l, 1) := by decide +kernel
theorem dL_isFrame_70 : decode cL_isFrame 70 = .ok (.ifCond .ne 7, 3) := by decide +kernel
theorem dL_isFrame_73 : decode cL_isFrame 73 = .ok (.iconst 1, 1) := by decide +kernel
theorem dL_isFrame_74 : decode cL_isFrame 74 = .ok (.goto 4, 3) := by decide +kernel
theorem dL_isFrame_77 : decode cL_isFrame 77 = .ok (.iconst 0, 1) := by decide +kernel
theorem dL_isFrame_78 : decode cL_isFrame 78 = .ok (.ireturn, 1) := by decide +kernel
theorem dL_isFrame_79 : decode cL_isFrame 79 = .ok (.lconst 0, 1) := by decide +kernel
theorem dL_isFrame_80 : decode cL_isFrame 80 = .ok (.lstore 5, 2) := by decide +kernel
theorem dL_isFrame_82 : decode cL_isFrame 82 = .ok (.lconst 0, 1) := by decide +kernel
theorem dL_isFrame_83 : decode cL_isFrame 83 = .ok (.lstore 7, 2) := by decide +kernel
theorem dL_isFrame_85 : decode cL_isFrame 85 = .ok (.lconst 0, 1) := by decide +kernel
theorem dL_isFrame_86 : decode cL_isFrame 86 = .ok (.lstore 9, 2) := by decide +kernel
theorem dL_isFrame_88 : decode cL_isFrame 88 = .ok (.iconst 0, 1) := by decide +kernel
theorem dL_isFrame_89 : decode cL_isFrame 89 = .ok (.istore 11, 2) := by decide +kernel
theorem dL_isFrame_91 : decode cL_isFrame 91 = .ok (.iload 11, 2) := by decide +kernel
theorem dL_isFrame_93 : decode cL_isFrame 93 = .ok (.iload_n 2, 1) := by decide +kernel
theorem dL_isFrame_94 : decode cL_isFrame 94 = .ok (.if_icmp .ge 98, 3) := by decide +kernel
theorem dL_isFrame_97 : decode cL_isFrame 97 = .ok (.aload_n 0, 1) := by decide +kernel
theorem dL_isFrame_98 : decode cL_isFrame 98 = .ok (.iload 11, 2) := by decide +kernel
theorem dL_isFrame_100 : decode cL_isFrame 100 = .ok (.invokestatic 206, 3) := by decide +kernel
theorem dL_isFrame_103 : decode cL_isFrame 103 = .ok (.lstore 12, 2) := by decide +kernel
theorem dL_isFrame_105 : decode cL_isFrame 105 = .ok (.aload_n 0, 1) := by decide +kernel
theorem dL_isFrame_106 : decode cL_isFrame 106 = .ok (.iload 11, 2) := by decide +kernel
theorem dL_isFrame_108 : decode cL_isFrame 108 = .ok (.invokestatic 209, 3) := by decide +kernel
theorem dL_isFrame_111 : decode cL_isFrame 111 = .ok (.lstore 14, 2) := by decide +kernel
theorem dL_isFrame_113 : decode cL_isFrame 113 = .ok (.lload 5, 2) := by decide +kernel
theorem dL_isFrame_115 : decode cL_isFrame 115 = .ok (.lload 12, 2) := by decide +kernel
theorem dL_isFrame_117 : decode cL_isFrame 117 = .ok (.invokestatic 211, 3) := by decide +kernel
theorem dL_isFrame_120 : decode cL_isFrame 120 = .ok (.ladd, 1) := by decide +kernel
theorem dL_isFrame_121 : decode cL_isFrame 121 = .ok (.lstore 5, 2) := by decide +kernel
theorem dL_isFrame_123 : decode cL_isFrame 123 = .ok (.lload 7, 2) := by decide +kernel
theorem dL_isFrame_125 : decode cL_isFrame 125 = .ok (.lload 14, 2) := by decide +kernel
theorem dL_isFrame_127 : decode cL_isFrame 127 = .ok (.ladd, 1) := by decide +kernel
theorem dL_isFrame_128 : decode cL_isFrame 128 = .ok (.lstore 7, 2) := by decide +kernel
theorem dL_isFrame_130 : decode cL_isFrame 130 = .ok (.lload 9, 2) := by decide +kernel
theorem dL_isFrame_132 : decode cL_isFrame 132 = .ok (.lload 12, 2) := by decide +kernel
theorem dL_isFrame_134 : decode cL_isFrame 134 = .ok (.invokestatic 211, 3) := by decide +kernel
theorem dL_isFrame_137 : decode cL_isFrame 137 = .ok (.invokestatic 217, 3) := by decide +kernel
theorem dL_isFrame_140 : decode cL_isFrame 140 = .ok (.lstore 9, 2) := by decide +kernel
theorem dL_isFrame_142 : decode cL_isFrame 142 = .ok (.iload 4, 2) := by decide +kernel
theorem dL_isFrame_144 : decode cL_isFrame 144 = .ok (.lload 12, 2) := by decide +kernel
theorem dL_isFrame_146 : decode cL_isFrame 146 = .ok (.lconst 0, 1) := by decide +kernel
theorem dL_isFrame_147 : decode cL_isFrame 147 = .ok (.lcmp, 1) := by decide +kernel
theorem dL_isFrame_148 : decode cL_isFrame 148 = .ok (.ifCond .eq 30, 3) := by decide +kernel
theorem dL_isFrame_151 : decode cL_isFrame 151 = .ok (.lload 12, 2) := by decide +kernel
theorem dL_isFrame_153 : decode cL_isFrame 153 = .ok (.lconst 0, 1) := by decide +kernel
theorem dL_isFrame_154 : decode cL_isFrame 154 = .ok (.lcmp, 1) := by decide +kernel
theorem dL_isFrame_155 : decode cL_isFrame 155 = .ok (.ifCond .le 7, 3) := by decide +kernel
theorem dL_isFrame_158 : decode cL_isFrame 158 = .ok (.iconst 1, 1) := by decide +kernel
theorem dL_isFrame_159 : decode cL_isFrame 159 = .ok (.goto 4, 3) := by decide +kernel
theorem dL_isFrame_162 : decode cL_isFrame 162 = .ok (.iconst 0, 1) := by decide +kernel
theorem dL_isFrame_163 : decode cL_isFrame 163 = .ok (.lload 14, 2) := by decide +kernel
theorem dL_isFrame_165 : decode cL_isFrame 165 = .ok (.lconst 0, 1) := by decide +kernel
theorem dL_isFrame_166 : decode cL_isFrame 166 = .ok (.lcmp, 1) := by decide +kernel
theorem dL_isFrame_167 : decode cL_isFrame 167 = .ok (.ifCond .lt 7, 3) := by decide +kernel
theorem dL_isFrame_170 : decode cL_isFrame 170 = .ok (.iconst 1, 1) := by decide +kernel
theorem dL_isFrame_171 : decode cL_isFrame 171 = .ok (.goto 4, 3) := by decide +kernel
theorem dL_isFrame_174 : decode cL_isFrame 174 = .ok (.iconst 0, 1) := by decide +kernel
theorem dL_isFrame_175 : decode cL_isFrame 175 = .ok (.if_icmp .ne 7, 3) := by decide +kernel
theorem dL_isFrame_178 : decode cL_isFrame 178 = .ok (.iconst 1, 1) := by decide +kernel
theorem dL_isFrame_179 : decode cL_isFrame 179 = .ok (.goto 4, 3) := by decide +kernel
theorem dL_isFrame_182 : decode cL_isFrame 182 = .ok (.iconst 0, 1) := by decide +kernel
theorem dL_isFrame_183 : decode cL_isFrame 183 = .ok (.iand, 1) := by decide +kernel
theorem dL_isFrame_184 : decode cL_isFrame 184 = .ok (.istore 4, 2) := by decide +kernel
theorem dL_isFrame_186 : decode cL_isFrame 186 = .ok (.iinc 11 1, 3) := by decide +kernel
theorem dL_isFrame_189 : decode cL_isFrame 189 = .ok (.goto (-98), 3) := by decide +kernel
theorem dL_isFrame_192 : decode cL_isFrame 192 = .ok (.iconst 0, 1) := by decide +kernel
theorem dL_isFrame_193 : decode cL_isFrame 193 = .ok (.istore 11, 2) := by decide +kernel
theorem dL_isFrame_195 : decode cL_isFrame 195 = .ok (.iload 11, 2) := by decide +kernel
theorem dL_isFrame_197 : decode cL_isFrame 197 = .ok (.bipush 30, 2) := by decide +kernel
theorem dL_isFrame_199 : decode cL_isFrame 199 = .ok (.if_icmp .gt 29, 3) := by decide +kernel
theorem dL_isFrame_202 : decode cL_isFrame 202 = .ok (.iload 4, 2) := by decide +kernel
theorem dL_isFrame_204 : decode cL_isFrame 204 = .ok (.aload_n 0, 1) := by decide +kernel
theorem dL_isFrame_205 : decode cL_isFrame 205 = .ok (.iload 11, 2) := by decide +kernel
theorem dL_isFrame_207 : decode cL_isFrame 207 = .ok (.invokestatic 201, 3) := by decide +kernel
theorem dL_isFrame_210 : decode cL_isFrame 210 = .ok (.iconst 1, 1) := by decide +kernel
theorem dL_isFrame_211 : decode cL_isFrame 211 = .ok (.if_icmp .ne 7, 3) := by decide +kernel
theorem dL_isFrame_214 : decode cL_isFrame 214 = .ok (.iconst 1, 1) := by decide +kernel
theorem dL_isFrame_215 : decode cL_isFrame 215 = .ok (.goto 4, 3) := by decide +kernel
theorem dL_isFrame_218 : decode cL_isFrame 218 = .ok (.iconst 0, 1) := by decide +kernel
theorem dL_isFrame_219 : decode cL_isFrame 219 = .ok (.iand, 1) := by decide +kernel
theorem dL_isFrame_220 : decode cL_isFrame 220 = .ok (.istore 4, 2) := by decide +kernel
theorem dL_isFrame_222 : decode cL_isFrame 222 = .ok (.iinc 11 5, 3) := by decide +kernel
theorem dL_isFrame_225 : decode cL_isFrame 225 = .ok (.goto (-30), 3) := by decide +kernel
theorem dL_isFrame_228 : decode cL_isFrame 228 = .ok (.aload_n 0, 1) := by decide +kernel
theorem dL_isFrame_229 : decode cL_isFrame 229 = .ok (.invokestatic 198, 3) := by decide +kernel
theorem dL_isFrame_232 : decode cL_isFrame 232 = .ok (.istore 11, 2) := by decide +kernel
theorem dL_isFrame_234 : decode cL_isFrame 234 = .ok (.iload 4, 2) := by decide +kernel
theorem dL_isFrame_236 : decode cL_isFrame 236 = .ok (.ifCond .eq 60, 3) := by decide +kernel
theorem dL_isFrame_239 : decode cL_isFrame 239 = .ok (.aload_n 0, 1) := by decide +kernel
theorem dL_isFrame_240 : decode cL_isFrame 240 = .ok (.invokestatic 195, 3) := by decide +kernel
theorem dL_isFrame_243 : decode cL_isFrame 243 = .ok (.lload 5, 2) := by decide +kernel
theorem dL_isFrame_245 : decode cL_isFrame 245 = .ok (.lcmp, 1) := by decide +kernel
theorem dL_isFrame_246 : decode cL_isFrame 246 = .ok (.ifCond .ne 50, 3) := by decide +kernel
theorem dL_isFrame_249 : decode cL_isFrame 249 = .ok (.iload_n 2, 1) := by decide +kernel
theorem dL_isFrame_250 : decode cL_isFrame 250 = .ok (.ifCond .ne 13, 3) := by decide +kernel
theorem dL_isFrame_253 : decode cL_isFrame 253 = .ok (.iload 11, 2) := by decide +kernel
theorem dL_isFrame_255 : decode cL_isFrame 255 = .ok (.bipush (-75), 2) := by decide +kernel
theorem dL_isFrame_257 : decode cL_isFrame 257 = .ok (.if_icmp .ne 39, 3) := by decide +kernel
theorem dL_isFrame_260 : decode cL_isFrame 260 = .ok (.goto 32, 3) := by decide +kernel
theorem dL_isFrame_263 : decode cL_isFrame 263 = .ok (.aload_n 0, 1) := by decide +kernel
theorem dL_isFrame_264 : decode cL_isFrame 264 = .ok (.iload 11, 2) := by decide +kernel
theorem dL_isFrame_266 : decode cL_isFrame 266 = .ok (.invokestatic 206, 3) := by decide +kernel
theorem dL_isFrame_269 : decode cL_isFrame 269 = .ok (.invokestatic 211, 3) := by decide +kernel
theorem dL_isFrame_272 : decode cL_isFrame 272 = .ok (.lload 9, 2) := by decide +kernel
theorem dL_isFrame_274 : decode cL_isFrame 274 = .ok (.lcmp, 1) := by decide +kernel
theorem dL_isFrame_275 : decode cL_isFrame 275 = .ok (.ifCond .ne 21, 3) := by decide +kernel
theorem dL_isFrame_278 : decode cL_isFrame 278 = .ok (.aload_n 0, 1) := by decide +kernel
theorem dL_isFrame_279 : decode cL_isFrame 279 = .ok (.invokestatic 203, 3) := by decide +kernel
theorem dL_isFrame_282 : decode cL_isFrame 282 = .ok (.lload 7, 2) := by decide +kernel
theorem dL_isFrame_284 : decode cL_isFrame 284 = .ok (.l2d, 1) := by decide +kernel
theorem dL_isFrame_285 : decode cL_isFrame 285 = .ok (.iload_n 2, 1) := by decide +kernel
theorem dL_isFrame_286 : decode cL_isFrame 286 = .ok (.i2d, 1) := by decide +kernel
theorem dL_isFrame_287 : decode cL_isFrame 287 = .ok (.ddiv, 1) := by decide +kernel
theorem dL_isFrame_288 : decode cL_isFrame 288 = .ok (.dcmp .l, 1) := by decide +kernel
theorem dL_isFrame_289 : decode cL_isFrame 289 = .ok (.ifCond .ne 7, 3) := by decide +kernel
theorem dL_isFrame_292 : decode cL_isFrame 292 = .ok (.iconst 1, 1) := by decide +kernel
theorem dL_isFrame_293 : decode cL_isFrame 293 = .ok (.goto 4, 3) := by decide +kernel
theorem dL_isFrame_296 : decode cL_isFrame 296 = .ok (.iconst 0, 1) := by decide +kernel
theorem dL_isFrame_297 : decode cL_isFrame 297 = .ok (.ireturn, 1) := by decide +kernel
theorem dL_areJoints_0 : decode cL_areJoints 0 = .ok (.aload_n 0, 1) := by decide +kernel
theorem dL_areJoints_1 : decode cL_areJoints 1 = .ok (.iload_n 1, 1) := by decide +kernel
theorem dL_areJoints_2 : decode cL_areJoints 2 = .ok (.invokestatic 221, 3) := by decide +kernel
theorem dL_areJoints_5 : decode cL_areJoints 5 = .ok (.bipush (-77), 2) := by decide +kernel
theorem dL_areJoints_7 : decode cL_areJoints 7 = .ok (.if_icmp .ne 7, 3) := by decide +kernel
theorem dL_areJoints_10 : decode cL_areJoints 10 = .ok (.iconst 1, 1) := by decide +kernel
theorem dL_areJoints_11 : decode cL_areJoints 11 = .ok (.goto 4, 3) := by decide +kernel
theorem dL_areJoints_14 : decode cL_areJoints 14 = .ok (.iconst 0, 1) := by decide +kernel
theorem dL_areJoints_15 : decode cL_areJoints 15 = .ok (.istore_n 2, 1) := by decide +kernel
theorem dL_areJoints_16 : decode cL_areJoints 16 = .ok (.iconst 0, 1) := by decide +kernel
theorem dL_areJoints_17 : decode cL_areJoints 17 = .ok (.istore_n 3, 1) := by decide +kernel
theorem dL_areJoints_18 : decode cL_areJoints 18 = .ok (.iconst 0, 1) := by decide +kernel
theorem dL_areJoints_19 : decode cL_areJoints 19 = .ok (.istore 4, 2) := by decide +kernel
theorem dL_areJoints_21 : decode cL_areJoints 21 = .ok (.iconst 0, 1) := by decide +kernel
theorem dL_areJoints_22 : decode cL_areJoints 22 = .ok (.istore 5, 2) := by decide +kernel
theorem dL_areJoints_24 : decode cL_areJoints 24 = .ok (.iload 5, 2) := by decide +kernel
theorem dL_areJoints_26 : decode cL_areJoints 26 = .ok (.iload_n 1, 1) := by decide +kernel
theorem dL_areJoints_27 : decode cL_areJoints 27 = .ok (.if_icmp .ge 122, 3) := by decide +kernel
theorem dL_areJoints_30 : decode cL_areJoints 30 = .ok (.aload_n 0, 1) := by decide +kernel
theorem dL_areJoints_31 : decode cL_areJoints 31 = .ok (.iload 5, 2) := by decide +kernel
theorem dL_areJoints_33 : decode cL_areJoints 33 = .ok (.invokestatic 223, 3) := by decide +kernel
theorem dL_areJoints_36 : decode cL_areJoints 36 = .ok (.istore 6, 2) := by decide +kernel
theorem dL_areJoints_38 : decode cL_areJoints 38 = .ok (.iload 6, 2) := by decide +kernel
theorem dL_areJoints_40 : decode cL_areJoints 40 = .ok (.iconst 1, 1) := by decide +kernel
theorem dL_areJoints_41 : decode cL_areJoints 41 = .ok (.iand, 1) := by decide +kernel
theorem dL_areJoints_42 : decode cL_areJoints 42 = .ok (.bipush 16, 2) := by decide +kernel
theorem dL_areJoints_44 : decode cL_areJoints 44 = .ok (.imul, 1) := by decide +kernel
theorem dL_areJoints_45 : decode cL_areJoints 45 = .ok (.iload 6, 2) := by decide +kernel
theorem dL_areJoints_47 : decode cL_areJoints 47 = .ok (.iconst 2, 1) := by decide +kernel
theorem dL_areJoints_48 : decode cL_areJoints 48 = .ok (.iand, 1) := by decide +kernel
theorem dL_areJoints_49 : decode cL_areJoints 49 = .ok (.iconst 4, 1) := by decide +kernel
theorem dL_areJoints_50 : decode cL_areJoints 50 = .ok (.imul, 1) := by decide +kernel
theorem dL_areJoints_51 : decode cL_areJoints 51 = .ok (.iadd, 1) := by decide +kernel
theorem dL_areJoints_52 : decode cL_areJoints 52 = .ok (.iload 6, 2) := by decide +kernel
theorem dL_areJoints_54 : decode cL_areJoints 54 = .ok (.iconst 4, 1) := by decide +kernel
theorem dL_areJoints_55 : decode cL_areJoints 55 = .ok (.iand, 1) := by decide +kernel
theorem dL_areJoints_56 : decode cL_areJoints 56 = .ok (.iadd, 1) := by decide +kernel
theorem dL_areJoints_57 : decode cL_areJoints 57 = .ok (.iload 6, 2) := by decide +kernel
theorem dL_areJoints_59 : decode cL_areJoints 59 = .ok (.bipush 8, 2) := by decide +kernel
theorem dL_areJoints_61 : decode cL_areJoints 61 = .ok (.iand, 1) := by decide +kernel
theorem dL_areJoints_62 : decode cL_areJoints 62 = .ok (.iconst 4, 1) := by decide +kernel
theorem dL_areJoints_63 : decode cL_areJoints 63 = .ok (.idiv, 1) := by decide +kernel
theorem dL_areJoints_64 : decode cL_areJoints 64 = .ok (.iadd, 1) := by decide +kernel
theorem dL_areJoints_65 : decode cL_areJoints 65 = .ok (.iload 6, 2) := by decide +kernel
theorem dL_areJoints_67 : decode cL_areJoints 67 = .ok (.bipush 16, 2) := by decide +kernel
theorem dL_areJoints_69 : decode cL_areJoints 69 = .ok (.iand, 1) := by decide +kernel
theorem dL_areJoints_70 : decode cL_areJoints 70 = .ok (.bipush 16, 2) := by decide +kernel
theorem dL_areJoints_72 : decode cL_areJoints 72 = .ok (.idiv, 1) := by decide +kernel
theorem dL_areJoints_73 : decode cL_areJoints 73 = .ok (.iadd, 1) := by decide +kernel
theorem dL_areJoints_74 : decode cL_areJoints 74 = .ok (.istore 7, 2) := by decide +kernel
theorem dL_areJoints_76 : decode cL_areJoints 76 = .ok (.iload_n 2, 1) := by decide +kernel
theorem dL_areJoints_77 : decode cL_areJoints 77 = .ok (.iload 6, 2) := by decide +kernel
theorem dL_areJoints_79 : decode cL_areJoints 79 = .ok (.ifCond .le 39, 3) := by decide +kernel
theorem dL_areJoints_82 : decode cL_areJoints 82 = .ok (.iload 6, 2) := by decide +kernel
theorem dL_areJoints_84 : decode cL_areJoints 84 = .ok (.bipush 32, 2) := by decide +kernel
theorem dL_areJoints_86 : decode cL_areJoints 86 = .ok (.if_icmp .ge 32, 3) := by decide +kernel
theorem dL_areJoints_89 : decode cL_areJoints 89 = .ok (.iload 7, 2) := by decide +kernel
theorem dL_areJoints_91 : decode cL_areJoints 91 = .ok (.ifCond .le 27, 3) := by decide +kernel
theorem dL_areJoints_94 : decode cL_areJoints 94 = .ok (.aload_n 0, 1) := by decide +kernel
theorem dL_areJoints_95 : decode cL_areJoints 95 = .ok (.iload 5, 2) := by decide +kernel
theorem dL_areJoints_97 : decode cL_areJoints 97 = .ok (.invokestatic 225, 3) := by decide +kernel
theorem dL_areJoints_100 : decode cL_areJoints 100 = .ok (.ifCond .lt 18, 3) := by decide +kernel
theorem dL_areJoints_103 : decode cL_areJoints 103 = .ok (.aload_n 0, 1) := by decide +kernel
theorem dL_areJoints_104 : decode cL_areJoints 104 = .ok (.iload 5, 2) := by decide +kernel
theorem dL_areJoints_106 : decode cL_areJoints 106 = .ok (.invokestatic 225, 3) := by decide +kernel
theorem dL_areJoints_109 : decode cL_areJoints 109 = .ok (.bipush 20, 2) := by decide +kernel
theorem dL_areJoints_111 : decode cL_areJoints 111 = .ok (.if_icmp .gt 7, 3) := by decide +kernel
theorem dL_areJoints_114 : decode cL_areJoints 114 = .ok (.iconst 1, 1) := by decide +kernel
theorem dL_areJoints_115 : decode cL_areJoints 115 = .ok (.goto 4, 3) := by decide +kernel
theorem dL_areJoints_118 : decode cL_areJoints 118 = .ok (.iconst 0, 1) := by decide +kernel
theorem dL_areJoints_119 : decode cL_areJoints 119 = .ok (.iand, 1) := by decide +kernel
theorem dL_areJoints_120 : decode cL_areJoints 120 = .ok (.istore_n 2, 1) := by decide +kernel
theorem dL_areJoints_121 : decode cL_areJoints 121 = .ok (.iload_n 3, 1) := by decide +kernel
theorem dL_areJoints_122 : decode cL_areJoints 122 = .ok (.aload_n 0, 1) := by decide +kernel
theorem dL_areJoints_123 : decode cL_areJoints 123 = .ok (.iload 5, 2) := by decide +kernel
theorem dL_areJoints_125 : decode cL_areJoints 125 = .ok (.invokestatic 221, 3) := by decide +kernel
theorem dL_areJoints_128 : decode cL_areJoints 128 = .ok (.iadd, 1) := by decide +kernel
theorem dL_areJoints_129 : decode cL_areJoints 129 = .ok (.istore_n 3, 1) := by decide +kernel
theorem dL_areJoints_130 : decode cL_areJoints 130 = .ok (.iload 4, 2) := by decide +kernel
theorem dL_areJoints_132 : decode cL_areJoints 132 = .ok (.aload_n 0, 1) := by decide +kernel
theorem dL_areJoints_133 : decode cL_areJoints 133 = .ok (.iload 5, 2) := by decide +kernel
theorem dL_areJoints_135 : decode cL_areJoints 135 = .ok (.invokestatic 225, 3) := by decide +kernel
theorem dL_areJoints_138 : decode cL_areJoints 138 = .ok (.invokestatic 227, 3) := by decide +kernel
theorem dL_areJoints_141 : decode cL_areJoints 141 = .ok (.istore 4, 2) := by decide +kernel
theorem dL_areJoints_143 : decode cL_areJoints 143 = .ok (.iinc 5 1, 3) := by decide +kernel
theorem dL_areJoints_146 : decode cL_areJoints 146 = .ok (.goto (-122), 3) := by decide +kernel
theorem dL_areJoints_149 : decode cL_areJoints 149 = .ok (.aload_n 0, 1) := by decide +kernel
theorem dL_areJoints_150 : decode cL_areJoints 150 = .ok (.invokestatic 229, 3) := by decide +kernel
theorem dL_areJoints_153 : decode cL_areJoints 153 = .ok (.istore 5, 2) := by decide +kernel
theorem dL_areJoints_155 : decode cL_areJoints 155 = .ok (.aload_n 0, 1) := by decide +kernel
theorem dL_areJoints_156 : decode cL_areJoints 156 = .ok (.invokestatic 231, 3) := by decide +kernel
theorem dL_areJoints_159 : decode cL_areJoints 159 = .ok (.fstore 6, 2) := by decide +kernel
theorem dL_areJoints_161 : decode cL_areJoints 161 = .ok (.iload_n 2, 1) := by decide +kernel
theorem dL_areJoints_162 : decode cL_areJoints 162 = .ok (.ifCond .eq 68, 3) := by decide +kernel
theorem dL_areJoints_165 : decode cL_areJoints 165 = .ok (.aload_n 0, 1) := by decide +kernel
theorem dL_areJoints_166 : decode cL_areJoints 166 = .ok (.invokevirtual 234, 3) := by decide +kernel
theorem dL_areJoints_169 : decode cL_areJoints 169 = .ok (.ifCond .lt 61, 3) := by decide +kernel
theorem dL_areJoints_172 : decode cL_areJoints 172 = .ok (.aload_n 0, 1) := by decide +kernel
theorem dL_areJoints_173 : decode cL_areJoints 173 = .ok (.invokevirtual 234, 3) := by decide +kernel
theorem dL_areJoints_176 : decode cL_areJoints 176 = .ok (.iload_n 1, 1) := by decide +kernel
theorem dL_areJoints_177 : decode cL_areJoints 177 = .ok (.iload_n 1, 1) := by decide +kernel
theorem dL_areJoints_178 : decode cL_areJoints 178 = .ok (.imul, 1) := by decide +kernel
theorem dL_areJoints_179 : decode cL_areJoints 179 = .ok (.if_icmp .gt 51, 3) := by decide +kernel
theorem dL_areJoints_182 : decode cL_areJoints 182 = .ok (.iload_n 1, 1) := by decide +kernel
theorem dL_areJoints_183 : decode cL_areJoints 183 = .ok (.ifCond .ne 21, 3) := by decide +kernel
theorem dL_areJoints_186 : decode cL_areJoints 186 = .ok (.iload 5, 2) := by decide +kernel
theorem dL_areJoints_188 : decode cL_areJoints 188 = .ok (.bipush (-75), 2) := by decide +kernel
theorem dL_areJoints_190 : decode cL_areJoints 190 = .ok (.if_icmp .ne 40, 3) := by decide +kernel
theorem dL_areJoints_193 : decode cL_areJoints 193 = .ok (.fload 6, 2) := by decide +kernel
theorem dL_areJoints_195 : decode cL_areJoints 195 = .ok (.ldc 118, 2) := by decide +kernel
theorem dL_areJoints_197 : decode cL_areJoints 197 = .ok (.fcmp .l, 1) := by decide +kernel
theorem dL_areJoints_198 : decode cL_areJoints 198 = .ok (.ifCond .ne 32, 3) := by decide +kernel
theorem dL_areJoints_201 : decode cL_areJoints 201 = .ok (.goto 25, 3) := by decide +kernel
theorem dL_areJoints_204 : decode cL_areJoints 204 = .ok (.aload_n 0, 1) := by decide +kernel
theorem dL_areJoints_205 : decode cL_areJoints 205 = .ok (.iload 5, 2) := by decide +kernel
theorem dL_areJoints_207 : decode cL_areJoints 207 = .ok (.invokestatic 225, 3) := by decide +kernel
theorem dL_areJoints_210 : decode cL_areJoints 210 = .ok (.iload 4, 2) := by decide +kernel
theorem dL_areJoints_212 : decode cL_areJoints 212 = .ok (.if_icmp .ne 18, 3) := by decide +kernel
theorem dL_areJoints_215 : decode cL_areJoints 215 = .ok (.fload 6, 2) := by decide +kernel
theorem dL_areJoints_217 : decode cL_areJoints 217 = .ok (.iload_n 3, 1) := by decide +kernel
theorem dL_areJoints_218 : decode cL_areJoints 218 = .ok (.i2f, 1) := by decide +kernel
theorem dL_areJoints_219 : decode cL_areJoints 219 = .ok (.iload_n 1, 1) := by decide +kernel
theorem dL_areJoints_220 : decode cL_areJoints 220 = .ok (.i2f, 1) := by decide +kernel
theorem dL_areJoints_221 : decode cL_areJoints 221 = .ok (.fdiv, 1) := by decide +kernel
theorem dL_areJoints_222 : decode cL_areJoints 222 = .ok (.fcmp .l, 1) := by decide +kernel
theorem dL_areJoints_223 : decode cL_areJoints 223 = .ok (.ifCond .ne 7, 3) := by decide +kernel
theorem dL_areJoints_226 : decode cL_areJoints 226 = .ok (.iconst 1, 1) := by decide +kernel
theorem dL_areJoints_227 : decode cL_areJoints 227 = .ok (.goto 4, 3) := by decide +kernel
theorem dL_areJoints_230 : decode cL_areJoints 230 = .ok (.iconst 0, 1) := by decide +kernel
theorem dL_areJoints_231 : decode cL_areJoints 231 = .ok (.ireturn, 1) := by decide +kernel
theorem dL_isYard_0 : decode cL_isYard 0 = .ok (.aload_n 0, 1) := by decide +kernel
theorem dL_isYard_1 : decode cL_isYard 1 = .ok (.invokestatic 237, 3) := by decide +kernel
theorem dL_isYard_4 : decode cL_isYard 4 = .ok (.istore_n 3, 1) := by decide +kernel
theorem dL_isYard_5 : decode cL_isYard 5 = .ok (.iload_n 3, 1) := by decide +kernel
theorem dL_isYard_6 : decode cL_isYard 6 = .ok (.ifCond .ge 13, 3) := by decide +kernel
theorem dL_isYard_9 : decode cL_isYard 9 = .ok (.iload_n 3, 1) := by decide +kernel
theorem dL_isYard_10 : decode cL_isYard 10 = .ok (.bipush (-75), 2) := by decide +kernel
theorem dL_isYard_12 : decode cL_isYard 12 = .ok (.if_icmp .ne 11, 3) := by decide +kernel
theorem dL_isYard_15 : decode cL_isYard 15 = .ok (.iload_n 1, 1) := by decide +kernel
theorem dL_isYard_16 : decode cL_isYard 16 = .ok (.ifCond .le 7, 3) := by decide +kernel
theorem dL_isYard_19 : decode cL_isYard 19 = .ok (.iconst 1, 1) := by decide +kernel
theorem dL_isYard_20 : decode cL_isYard 20 = .ok (.goto 4, 3) := by decide +kernel
theorem dL_isYard_23 : decode cL_isYard 23 = .ok (.iconst 0, 1) := by decide +kernel
theorem dL_isYard_24 : decode cL_isYard 24 = .ok (.istore 4, 2) := by decide +kernel
theorem dL_isYard_26 : decode cL_isYard 26 = .ok (.iconst 5, 1) := by decide +kernel
theorem dL_isYard_27 : decode cL_isYard 27 = .ok (.newarray .int, 2) := by decide +kernel
theorem dL_isYard_29 : decode cL_isYard 29 = .ok (.astore 5, 2) := by decide +kernel
theorem dL_isYard_31 : decode cL_isYard 31 = .ok (.iconst 5, 1) := by decide +kernel
theorem dL_isYard_32 : decode cL_isYard 32 = .ok (.newarray .int, 2) := by decide +kernel
theorem dL_isYard_34 : decode cL_isYard 34 = .ok (.astore 6, 2) := by decide +kernel
theorem dL_isYard_36 : decode cL_isYard 36 = .ok (.iconst 0, 1) := by decide +kernel
theorem dL_isYard_37 : decode cL_isYard 37 = .ok (.istore 7, 2) := by decide +kernel
theorem dL_isYard_39 : decode cL_isYard 39 = .ok (.iload 7, 2) := by decide +kernel
theorem dL_isYard_41 : decode cL_isYard 41 = .ok (.iload_n 1, 1) := by decide +kernel
theorem dL_isYard_42 : decode cL_isYard 42 = .ok (.if_icmp .ge 91, 3) := by decide +kernel
theorem dL_isYard_45 : decode cL_isYard 45 = .ok (.aload_n 0, 1) := by decide +kernel
theorem dL_isYard_46 : decode cL_isYard 46 = .ok (.iload 7, 2) := by decide +kernel
theorem dL_isYard_48 : decode cL_isYard 48 = .ok (.invokestatic 239, 3) := by decide +kernel
theorem dL_isYard_51 : decode cL_isYard 51 = .ok (.istore 8, 2) := by decide +kernel
theorem dL_isYard_53 : decode cL_isYard 53 = .ok (.iload 4, 2) := by decide +kernel
theorem dL_isYard_55 : decode cL_isYard 55 = .ok (.aload_n 0, 1) := by decide +kernel
theorem dL_isYard_56 : decode cL_isYard 56 = .ok (.iload 7, 2) := by decide +kernel
theorem dL_isYard_58 : decode cL_isYard 58 = .ok (.invokestatic 241, 3) := by decide +kernel
theorem dL_isYard_61 : decode cL_isYard 61 = .ok (.ifCond .le 32, 3) := by decide +kernel
theorem dL_isYard_64 : decode cL_isYard 64 = .ok (.iload_n 3, 1) := by decide +kernel
theorem dL_isYard_65 : decode cL_isYard 65 = .ok (.ifCond .ge 13, 3) := by decide +kernel
theorem dL_isYard_68 : decode cL_isYard 68 = .ok (.iload 8, 2) := by decide +kernel
theorem dL_isYard_70 : decode cL_isYard 70 = .ok (.bipush (-75), 2) := by decide +kernel
theorem dL_isYard_72 : decode cL_isYard 72 = .ok (.if_icmp .ne 21, 3) := by decide +kernel
theorem dL_isYard_75 : decode cL_isYard 75 = .ok (.goto 14, 3) := by decide +kernel
theorem dL_isYard_78 : decode cL_isYard 78 = .ok (.iload 8, 2) := by decide +kernel
theorem dL_isYard_80 : decode cL_isYard 80 = .ok (.ifCond .lt 13, 3) := by decide +kernel
theorem dL_isYard_83 : decode cL_isYard 83 = .ok (.iload 8, 2) := by decide +kernel
theorem dL_isYard_85 : decode cL_isYard 85 = .ok (.iload_n 2, 1) := by decide +kernel
theorem dL_isYard_86 : decode cL_isYard 86 = .ok (.if_icmp .ge 7, 3) := by decide +kernel
theorem dL_isYard_89 : decode cL_isYard 89 = .ok (.iconst 1, 1) := by decide +kernel
theorem dL_isYard_90 : decode cL_isYard 90 = .ok (.goto 4, 3) := by decide +kernel
theorem dL_isYard_93 : decode cL_isYard 93 = .ok (.iconst 0, 1) := by decide +kernel
theorem dL_isYard_94 : decode cL_isYard 94 = .ok (.iand, 1) := by decide +kernel
theorem dL_isYard_95 : decode cL_isYard 95 = .ok (.istore 4, 2) := by decide +kernel
theorem dL_isYard_97 : decode cL_isYard 97 = .ok (.iload 8, 2) := by decide +kernel
theorem dL_isYard_99 : decode cL_isYard 99 = .ok (.ifCond .lt 28, 3) := by decide +kernel
theorem dL_isYard_102 : decode cL_isYard 102 = .ok (.aload 5, 2) := by decide +kernel
theorem dL_isYard_104 : decode cL_isYard 104 = .ok (.iload 8, 2) := by decide +kernel
theorem dL_isYard_106 : decode cL_isYard 106 = .ok (.dup2, 1) := by decide +kernel
theorem dL_isYard_107 : decode cL_isYard 107 = .ok (.iaload, 1) := by decide +kernel
theorem dL_isYard_108 : decode cL_isYard 108 = .ok (.aload_n 0, 1) := by decide +kernel
theorem dL_isYard_109 : decode cL_isYard 109 = .ok (.iload 7, 2) := by decide +kernel
theorem dL_isYard_111 : decode cL_isYard 111 = .ok (.invokestatic 241, 3) := by decide +kernel
theorem dL_isYard_114 : decode cL_isYard 114 = .ok (.iconst 1, 1) := by decide +kernel
theorem dL_isYard_115 : decode cL_isYard 115 = .ok (.iadd, 1) := by decide +kernel
theorem dL_isYard_116 : decode cL_isYard 116 = .ok (.iadd, 1) := by decide +kernel
theorem dL_isYard_117 : decode cL_isYard 117 = .ok (.iastore, 1) := by decide +kernel
theorem dL_isYard_118 : decode cL_isYard 118 = .ok (.aload 6, 2) := by decide +kernel
theorem dL_isYard_120 : decode cL_isYard 120 = .ok (.iload 8, 2) := by decide +kernel
theorem dL_isYard_122 : decode cL_isYard 122 = .ok (.dup2, 1) := by decide +kernel
theorem dL_isYard_123 : decode cL_isYard 123 = .ok (.iaload, 1) := by decide +kernel
theorem dL_isYard_124 : decode cL_isYard 124 = .ok (.iconst 1, 1) := by decide +kernel
theorem dL_isYard_125 : decode cL_isYard 125 = .ok (.iadd, 1) := by decide +kernel
theorem dL_isYard_126 : decode cL_isYard 126 = .ok (.iastore, 1) := by decide +kernel
theorem dL_isYard_127 : decode cL_isYard 127 = .ok (.iinc 7 1, 3) := by decide +kernel
theorem dL_isYard_130 : decode cL_isYard 130 = .ok (.goto (-91), 3) := by decide +kernel
theorem dL_isYard_133 : decode cL_isYard 133 = .ok (.iconst 0, 1) := by decide +kernel
theorem dL_isYard_134 : decode cL_isYard 134 = .ok (.istore 7, 2) := by decide +kernel
theorem dL_isYard_136 : decode cL_isYard 136 = .ok (.iconst 0, 1) := by decide +kernel
theorem dL_isYard_137 : decode cL_isYard 137 = .ok (.istore 8, 2) := by decide +kernel
theorem dL_isYard_139 : decode cL_isYard 139 = .ok (.iconst 0, 1) := by decide +kernel
theorem dL_isYard_140 : decode cL_isYard 140 = .ok (.istore 9, 2) := by decide +kernel
theorem dL_isYard_142 : decode cL_isYard 142 = .ok (.iload 9, 2) := by decide +kernel
theorem dL_isYard_144 : decode cL_isYard 144 = .ok (.iload_n 2, 1) := by decide +kernel
theorem dL_isYard_145 : decode cL_isYard 145 = .ok (.if_icmp .ge 72, 3) := by decide +kernel
theorem dL_isYard_148 : decode cL_isYard 148 = .ok (.iload_n 3, 1) := by decide +kernel
theorem dL_isYard_149 : decode cL_isYard 149 = .ok (.ifCond .lt 68, 3) := by decide +kernel
theorem dL_isYard_152 : decode cL_isYard 152 = .ok (.iload 4, 2) := by decide +kernel
theorem dL_isYard_154 : decode cL_isYard 154 = .ok (.aload_n 0, 1) := by decide +kernel
theorem dL_isYard_155 : decode cL_isYard 155 = .ok (.iload 9, 2) := by decide +kernel
theorem dL_isYard_157 : decode cL_isYard 157 = .ok (.invokestatic 243, 3) := by decide +kernel
theorem dL_isYard_160 : decode cL_isYard 160 = .ok (.ifCond .lt 7, 3) := by decide +kernel
theorem dL_isYard_163 : decode cL_isYard 163 = .ok (.iconst 1, 1) := by decide +kernel
theorem dL_isYard_164 : decode cL_isYard 164 = .ok (.goto 4, 3) := by decide +kernel
theorem dL_isYard_167 : decode cL_isYard 167 = .ok (.iconst 0, 1) := by decide +kernel
theorem dL_isYard_168 : decode cL_isYard 168 = .ok (.iand, 1) := by decide +kernel
theorem dL_isYard_169 : decode cL_isYard 169 = .ok (.istore 4, 2) := by decide +kernel
theorem dL_isYard_171 : decode cL_isYard 171 = .ok (.iload 8, 2) := by decide +kernel
theorem dL_isYard_173 : decode cL_isYard 173 = .ok (.aload 6, 2) := by decide +kernel
theorem dL_isYard_175 : decode cL_isYard 175 = .ok (.iload 9, 2) := by decide +kernel
theorem dL_isYard_177 : decode cL_isYard 177 = .ok (.iaload, 1) := by decide +kernel
theorem dL_isYard_178 : decode cL_isYard 178 = .ok (.ifCond .le 18, 3) := by decide +kernel
theorem dL_isYard_181 : decode cL_isYard 181 = .ok (.aload_n 0, 1) := by decide +kernel
theorem dL_isYard_182 : decode cL_isYard 182 = .ok (.iload 9, 2) := by decide +kernel
theorem dL_isYard_184 : decode cL_isYard 184 = .ok (.invokestatic 243, 3) := by decide +kernel
theorem dL_isYard_187 : decode cL_isYard 187 = .ok (.aload 5, 2) := by decide +kernel
theorem dL_isYard_189 : decode cL_isYard 189 = .ok (.iload 9, 2) := by decide +kernel
theorem dL_isYard_191 : decode cL_isYard 191 = .ok (.iaload, 1) := by decide +kernel
theorem dL_isYard_192 : decode cL_isYard 192 = .ok (.iadd, 1) := by decide +kernel
theorem dL_isYard_193 : decode cL_isYard 193 = .ok (.goto 4, 3) := by decide +kernel
theorem dL_isYard_196 : decode cL_isYard 196 = .ok (.iconst 0, 1) := by decide +kernel
theorem dL_isYard_197 : decode cL_isYard 197 = .ok (.iadd, 1) := by decide +kernel
theorem dL_isYard_198 : decode cL_isYard 198 = .ok (.istore 8, 2) := by decide +kernel
theorem dL_isYard_200 : decode cL_isYard 200 = .ok (.iload 7, 2) := by decide +kernel
theorem dL_isYard_202 : decode cL_isYard 202 = .ok (.aload_n 0, 1) := by decide +kernel
theorem dL_isYard_203 : decode cL_isYard 203 = .ok (.iload 9, 2) := by decide +kernel
theorem dL_isYard_205 : decode cL_isYard 205 = .ok (.invokestatic 243, 3) := by decide +kernel
theorem dL_isYard_208 : decode cL_isYard 208 = .ok (.iadd, 1) := by decide +kernel
theorem dL_isYard_209 : decode cL_isYard 209 = .ok (.istore 7, 2) := by decide +kernel
theorem dL_isYard_211 : decode cL_isYard 211 = .ok (.iinc 9 1, 3) := by decide +kernel
theorem dL_isYard_214 : decode cL_isYard 214 = .ok (.goto (-72), 3) := by decide +kernel
theorem dL_isYard_217 : decode cL_isYard 217 = .ok (.iload 4, 2) := by decide +kernel
theorem dL_isYard_219 : decode cL_isYard 219 = .ok (.ifCond .eq 32, 3) := by decide +kernel
theorem dL_isYard_222 : decode cL_isYard 222 = .ok (.iload_n 3, 1) := by decide +kernel
theorem dL_isYard_223 : decode cL_isYard 223 = .ok (.ifCond .lt 14, 3) := by decide +kernel
theorem dL_isYard_226 : decode cL_isYard 226 = .ok (.iload 8, 2) := by decide +kernel
theorem dL_isYard_228 : decode cL_isYard 228 = .ok (.iload_n 3, 1) := by decide +kernel
theorem dL_isYard_229 : decode cL_isYard 229 = .ok (.if_icmp .ne 22, 3) := by decide +kernel
theorem dL_isYard_232 : decode cL_isYard 232 = .ok (.iload 7, 2) := by decide +kernel
theorem dL_isYard_234 : decode cL_isYard 234 = .ok (.ifCond .lt 17, 3) := by decide +kernel
theorem dL_isYard_237 : decode cL_isYard 237 = .ok (.aload_n 0, 1) := by decide +kernel
theorem dL_isYard_238 : decode cL_isYard 238 = .ok (.iload_n 2, 1) := by decide +kernel
theorem dL_isYard_239 : decode cL_isYard 239 = .ok (.invokestatic 243, 3) := by decide +kernel
theorem dL_isYard_242 : decode cL_isYard 242 = .ok (.bipush (-77), 2) := by decide +kernel
theorem dL_isYard_244 : decode cL_isYard 244 = .ok (.if_icmp .ne 7, 3) := by decide +kernel
theorem dL_isYard_247 : decode cL_isYard 247 = .ok (.iconst 1, 1) := by decide +kernel
theorem dL_isYard_248 : decode cL_isYard 248 = .ok (.goto 4, 3) := by decide +kernel
theorem dL_isYard_251 : decode cL_isYard 251 = .ok (.iconst 0, 1) := by decide +kernel
theorem dL_isYard_252 : decode cL_isYard 252 = .ok (.ireturn, 1) := by decide +kernel
theorem dL_isRaising_0 : decode cL_isRaising 0 = .ok (.aload_n 0, 1) := by decide +kernel
theorem dL_isRaising_1 : decode cL_isRaising 1 = .ok (.invokevirtual 245, 3) := by decide +kernel
theorem dL_isRaising_4 : decode cL_isRaising 4 = .ok (.istore_n 2, 1) := by decide +kernel
theorem dL_isRaising_5 : decode cL_isRaising 5 = .ok (.aload_n 0, 1) := by decide +kernel
theorem dL_isRaising_6 : decode cL_isRaising 6 = .ok (.invokevirtual 248, 3) := by decide +kernel
theorem dL_isRaising_9 : decode cL_isRaising 9 = .ok (.iload_n 2, 1) := by decide +kernel
theorem dL_isRaising_10 : decode cL_isRaising 10 = .ok (.if_icmp .ne 23, 3) := by decide +kernel
theorem dL_isRaising_13 : decode cL_isRaising 13 = .ok (.aload_n 0, 1) := by decide +kernel
theorem dL_isRaising_14 : decode cL_isRaising 14 = .ok (.invokevirtual 251, 3) := by decide +kernel
theorem dL_isRaising_17 : decode cL_isRaising 17 = .ok (.ifCond .le 7, 3) := by decide +kernel
theorem dL_isRaising_20 : decode cL_isRaising 20 = .ok (.iconst 1, 1) := by decide +kernel
theorem dL_isRaising_21 : decode cL_isRaising 21 = .ok (.goto 4, 3) := by decide +kernel
theorem dL_isRaising_24 : decode cL_isRaising 24 = .ok (.iconst 0, 1) := by decide +kernel
theorem dL_isRaising_25 : decode cL_isRaising 25 = .ok (.iload_n 2, 1) := by decide +kernel
theorem dL_isRaising_26 : decode cL_isRaising 26 = .ok (.if_icmp .ne 7, 3) := by decide +kernel
theorem dL_isRaising_29 : decode cL_isRaising 29 = .ok (.iconst 1, 1) := by decide +kernel
theorem dL_isRaising_30 : decode cL_isRaising 30 = .ok (.goto 4, 3) := by decide +kernel
theorem dL_isRaising_33 : decode cL_isRaising 33 = .ok (.iconst 0, 1) := by decide +kernel
theorem dL_isRaising_34 : decode cL_isRaising 34 = .ok (.istore_n 3, 1) := by decide +kernel
theorem dL_isRaising_35 : decode cL_isRaising 35 = .ok (.iconst 0, 1) := by decide +kernel
theorem dL_isRaising_36 : decode cL_isRaising 36 = .ok (.istore 4, 2) := by decide +kernel
theorem dL_isRaising_38 : decode cL_isRaising 38 = .ok (.aload_n 0, 1) := by decide +kernel
theorem dL_isRaising_39 : decode cL_isRaising 39 = .ok (.iconst 0, 1) := by decide +kernel
theorem dL_isRaising_40 : decode cL_isRaising 40 = .ok (.invokestatic 156, 3) := by decide +kernel
theorem dL_isRaising_43 : decode cL_isRaising 43 = .ok (.istore 5, 2) := by decide +kernel
theorem dL_isRaising_45 : decode cL_isRaising 45 = .ok (.iload_n 3, 1) := by decide +kernel
theorem dL_isRaising_46 : decode cL_isRaising 46 = .ok (.aload_n 0, 1) := by decide +kernel
theorem dL_isRaising_47 : decode cL_isRaising 47 = .ok (.iload 5, 2) := by decide +kernel
theorem dL_isRaising_49 : decode cL_isRaising 49 = .ok (.invokestatic 156, 3) := by decide +kernel
theorem dL_isRaising_52 : decode cL_isRaising 52 = .ok (.ifCond .ne 7, 3) := by decide +kernel
theorem dL_isRaising_55 : decode cL_isRaising 55 = .ok (.iconst 1, 1) := by decide +kernel
theorem dL_isRaising_56 : decode cL_isRaising 56 = .ok (.goto 4, 3) := by decide +kernel
theorem dL_isRaising_59 : decode cL_isRaising 59 = .ok (.iconst 0, 1) := by decide +kernel
theorem dL_isRaising_60 : decode cL_isRaising 60 = .ok (.iand, 1) := by decide +kernel
theorem dL_isRaising_61 : decode cL_isRaising 61 = .ok (.istore_n 3, 1) := by decide +kernel
theorem dL_isRaising_62 : decode cL_isRaising 62 = .ok (.iconst 0, 1) := by decide +kernel
theorem dL_isRaising_63 : decode cL_isRaising 63 = .ok (.istore 6, 2) := by decide +kernel
theorem dL_isRaising_65 : decode cL_isRaising 65 = .ok (.iload 6, 2) := by decide +kernel
theorem dL_isRaising_67 : decode cL_isRaising 67 = .ok (.iload_n 1, 1) := by decide +kernel
theorem dL_isRaising_68 : decode cL_isRaising 68 = .ok (.if_icmp .ge 113, 3) := by decide +kernel
theorem dL_isRaising_71 : decode cL_isRaising 71 = .ok (.aload_n 0, 1) := by decide +kernel
theorem dL_isRaising_72 : decode cL_isRaising 72 = .ok (.iload 6, 2) := by decide +kernel
theorem dL_isRaising_74 : decode cL_isRaising 74 = .ok (.invokestatic 254, 3) := by decide +kernel
theorem dL_isRaising_77 : decode cL_isRaising 77 = .ok (.istore 7, 2) := by decide +kernel
theorem dL_isRaising_79 : decode cL_isRaising 79 = .ok (.iload_n 3, 1) := by decide +kernel
theorem dL_isRaising_80 : decode cL_isRaising 80 = .ok (.iload_n 2, 1) := by decide +kernel
theorem dL_isRaising_81 : decode cL_isRaising 81 = .ok (.ifCond .eq 52, 3) := by decide +kernel
theorem dL_isRaising_84 : decode cL_isRaising 84 = .ok (.iload 7, 2) := by decide +kernel
theorem dL_isRaising_86 : decode cL_isRaising 86 = .ok (.ifCond .lt 43, 3) := by decide +kernel
theorem dL_isRaising_89 : decode cL_isRaising 89 = .ok (.iload 7, 2) := by decide +kernel
theorem dL_isRaising_91 : decode cL_isRaising 91 = .ok (.iload_n 1, 1) := by decide +kernel
theorem dL_isRaising_92 : decode cL_isRaising 92 = .ok (.if_icmp .ge 37, 3) := by decide +kernel
theorem dL_isRaising_95 : decode cL_isRaising 95 = .ok (.iload 4, 2) := by decide +kernel
theorem dL_isRaising_97 : decode cL_isRaising 97 = .ok (.iload 7, 2) := by decide +kernel
theorem dL_isRaising_99 : decode cL_isRaising 99 = .ok (.ishr, 1) := by decide +kernel
theorem dL_isRaising_100 : decode cL_isRaising 100 = .ok (.iconst 1, 1) := by decide +kernel
theorem dL_isRaising_101 : decode cL_isRaising 101 = .ok (.iand, 1) := by decide +kernel
theorem dL_isRaising_102 : decode cL_isRaising 102 = .ok (.ifCond .ne 27, 3) := by decide +kernel
theorem dL_isRaising_105 : decode cL_isRaising 105 = .ok (.aload_n 0, 1) := by decide +kernel
theorem dL_isRaising_106 : decode cL_isRaising 106 = .ok (.iload 6, 2) := by decide +kernel
theorem dL_isRaising_108 : decode cL_isRaising 108 = .ok (.invokestatic 256, 3) := by decide +kernel
theorem dL_isRaising_111 : decode cL_isRaising 111 = .ok (.ifCond .lt 18, 3) := by decide +kernel
theorem dL_isRaising_114 : decode cL_isRaising 114 = .ok (.aload_n 0, 1) := by decide +kernel
theorem dL_isRaising_115 : decode cL_isRaising 115 = .ok (.iload 6, 2) := by decide +kernel
theorem dL_isRaising_117 : decode cL_isRaising 117 = .ok (.invokestatic 256, 3) := by decide +kernel
theorem dL_isRaising_120 : decode cL_isRaising 120 = .ok (.iload 5, 2) := by decide +kernel
theorem dL_isRaising_122 : decode cL_isRaising 122 = .ok (.if_icmp .gt 7, 3) := by decide +kernel
theorem dL_isRaising_125 : decode cL_isRaising 125 = .ok (.iconst 1, 1) := by decide +kernel
theorem dL_isRaising_126 : decode cL_isRaising 126 = .ok (.goto 30, 3) := by decide +kernel
theorem dL_isRaising_129 : decode cL_isRaising 129 = .ok (.iconst 0, 1) := by decide +kernel
theorem dL_isRaising_130 : decode cL_isRaising 130 = .ok (.goto 26, 3) := by decide +kernel
theorem dL_isRaising_133 : decode cL_isRaising 133 = .ok (.iload 7, 2) := by decide +kernel
theorem dL_isRaising_135 : decode cL_isRaising 135 = .ok (.bipush (-75), 2) := by decide +kernel
theorem dL_isRaising_137 : decode cL_isRaising 137 = .ok (.if_icmp .ne 18, 3) := by decide +kernel
theorem dL_isRaising_140 : decode cL_isRaising 140 = .ok (.aload_n 0, 1) := by decide +kernel
theorem dL_isRaising_141 : decode cL_isRaising 141 = .ok (.iload 6, 2) := by decide +kernel
theorem dL_isRaising_143 : decode cL_isRaising 143 = .ok (.invokestatic 256, 3) := by decide +kernel
theorem dL_isRaising_146 : decode cL_isRaising 146 = .ok (.bipush (-75), 2) := by decide +kernel
theorem dL_isRaising_148 : decode cL_isRaising 148 = .ok (.if_icmp .ne 7, 3) := by decide +kernel
theorem dL_isRaising_151 : decode cL_isRaising 151 = .ok (.iconst 1, 1) := by decide +kernel
theorem dL_isRaising_152 : decode cL_isRaising 152 = .ok (.goto 4, 3) := by decide +kernel
theorem dL_isRaising_155 : decode cL_isRaising 155 = .ok (.iconst 0, 1) := by decide +kernel
theorem dL_isRaising_156 : decode cL_isRaising 156 = .ok (.iand, 1) := by decide +kernel
theorem dL_isRaising_157 : decode cL_isRaising 157 = .ok (.istore_n 3, 1) := by decide +kernel
theorem dL_isRaising_158 : decode cL_isRaising 158 = .ok (.iload 4, 2) := by decide +kernel
theorem dL_isRaising_160 : decode cL_isRaising 160 = .ok (.iload_n 2, 1) := by decide +kernel
theorem dL_isRaising_161 : decode cL_isRaising 161 = .ok (.ifCond .eq 10, 3) := by decide +kernel
theorem dL_isRaising_164 : decode cL_isRaising 164 = .ok (.iconst 1, 1) := by decide +kernel
theorem dL_isRaising_165 : decode cL_isRaising 165 = .ok (.iload 7, 2) := by decide +kernel
theorem dL_isRaising_167 : decode cL_isRaising 167 = .ok (.ishl, 1) := by decide +kernel
theorem dL_isRaising_168 : decode cL_isRaising 168 = .ok (.goto 4, 3) := by decide +kernel
theorem dL_isRaising_171 : decode cL_isRaising 171 = .ok (.iconst 0, 1) := by decide +kernel
theorem dL_isRaising_172 : decode cL_isRaising 172 = .ok (.ior, 1) := by decide +kernel
theorem dL_isRaising_173 : decode cL_isRaising 173 = .ok (.istore 4, 2) := by decide +kernel
theorem dL_isRaising_175 : decode cL_isRaising 175 = .ok (.iinc 6 1, 3) := by decide +kernel
theorem dL_isRaising_178 : decode cL_isRaising 178 = .ok (.goto (-113), 3) := by decide +kernel
theorem dL_isRaising_181 : decode cL_isRaising 181 = .ok (.aload_n 0, 1) := by decide +kernel
theorem dL_isRaising_182 : decode cL_isRaising 182 = .ok (.invokestatic 258, 3) := by decide +kernel
theorem dL_isRaising_185 : decode cL_isRaising 185 = .ok (.istore 6, 2) := by decide +kernel
theorem dL_isRaising_187 : decode cL_isRaising 187 = .ok (.iload_n 3, 1) := by decide +kernel
theorem dL_isRaising_188 : decode cL_isRaising 188 = .ok (.ifCond .eq 47, 3) := by decide +kernel
theorem dL_isRaising_191 : decode cL_isRaising 191 = .ok (.aload_n 0, 1) := by decide +kernel
theorem dL_isRaising_192 : decode cL_isRaising 192 = .ok (.iload_n 1, 1) := by decide +kernel
theorem dL_isRaising_193 : decode cL_isRaising 193 = .ok (.invokestatic 254, 3) := by decide +kernel
theorem dL_isRaising_196 : decode cL_isRaising 196 = .ok (.iload_n 2, 1) := by decide +kernel
theorem dL_isRaising_197 : decode cL_isRaising 197 = .ok (.ifCond .eq 8, 3) := by decide +kernel
theorem dL_isRaising_200 : decode cL_isRaising 200 = .ok (.bipush (-77), 2) := by decide +kernel
theorem dL_isRaising_202 : decode cL_isRaising 202 = .ok (.goto 5, 3) := by decide +kernel
theorem dL_isRaising_205 : decode cL_isRaising 205 = .ok (.bipush (-75), 2) := by decide +kernel
theorem dL_isRaising_207 : decode cL_isRaising 207 = .ok (.if_icmp .ne 28, 3) := by decide +kernel
theorem dL_isRaising_210 : decode cL_isRaising 210 = .ok (.iload 6, 2) := by decide +kernel
theorem dL_isRaising_212 : decode cL_isRaising 212 = .ok (.bipush (-75), 2) := by decide +kernel
theorem dL_isRaising_214 : decode cL_isRaising 214 = .ok (.if_icmp .eq 9, 3) := by decide +kernel
theorem dL_isRaising_217 : decode cL_isRaising 217 = .ok (.iload 6, 2) := by decide +kernel
theorem dL_isRaising_219 : decode cL_isRaising 219 = .ok (.iload_n 1, 1) := by decide +kernel
theorem dL_isRaising_220 : decode cL_isRaising 220 = .ok (.if_icmp .ge 15, 3) := by decide +kernel
theorem dL_isRaising_223 : decode cL_isRaising 223 = .ok (.aload_n 0, 1) := by decide +kernel
theorem dL_isRaising_224 : decode cL_isRaising 224 = .ok (.invokevirtual 245, 3) := by decide +kernel
theorem dL_isRaising_227 : decode cL_isRaising 227 = .ok (.iload_n 2, 1) := by decide +kernel
theorem dL_isRaising_228 : decode cL_isRaising 228 = .ok (.if_icmp .ne 7, 3) := by decide +kernel
theorem dL_isRaising_231 : decode cL_isRaising 231 = .ok (.iconst 1, 1) := by decide +kernel
theorem dL_isRaising_232 : decode cL_isRaising 232 = .ok (.goto 4, 3) := by decide +kernel
theorem dL_isRaising_235 : decode cL_isRaising 235 = .ok (.iconst 0, 1) := by decide +kernel
theorem dL_isRaising_236 : decode cL_isRaising 236 = .ok (.ireturn, 1) := by decide +kernel
theorem dL_isThrown_0 : decode cL_isThrown 0 = .ok (.aload_n 0, 1) := by decide +kernel
theorem dL_isThrown_1 : decode cL_isThrown 1 = .ok (.invokevirtual 186, 3) := by decide +kernel
theorem dL_isThrown_4 : decode cL_isThrown 4 = .ok (.istore_n 1, 1) := by decide +kernel
theorem dL_isThrown_5 : decode cL_isThrown 5 = .ok (.aload_n 0, 1) := by decide +kernel
theorem dL_isThrown_6 : decode cL_isThrown 6 = .ok (.invokevirtual 234, 3) := by decide +kernel
theorem dL_isThrown_9 : decode cL_isThrown 9 = .ok (.istore_n 2, 1) := by decide +kernel
theorem dL_isThrown_10 : decode cL_isThrown 10 = .ok (.aload_n 0, 1) := by decide +kernel
theorem dL_isThrown_11 : decode cL_isThrown 11 = .ok (.invokevirtual 251, 3) := by decide +kernel
theorem dL_isThrown_14 : decode cL_isThrown 14 = .ok (.istore_n 3, 1) := by decide +kernel
theorem dL_isThrown_15 : decode cL_isThrown 15 = .ok (.aload_n 0, 1) := by decide +kernel
theorem dL_isThrown_16 : decode cL_isThrown 16 = .ok (.iconst (-1), 1) := by decide +kernel
theorem dL_isThrown_17 : decode cL_isThrown 17 = .ok (.iconst 0, 1) := by decide +kernel
theorem dL_isThrown_18 : decode cL_isThrown 18 = .ok (.bipush 112, 2) := by decide +kernel
theorem dL_isThrown_20 : decode cL_isThrown 20 = .ok (.invokestatic 140, 3) := by decide +kernel
theorem dL_isThrown_23 : decode cL_isThrown 23 = .ok (.bipush (-78), 2) := by decide +kernel
theorem dL_isThrown_25 : decode cL_isThrown 25 = .ok (.if_icmp .ne 111, 3) := by decide +kernel
theorem dL_isThrown_28 : decode cL_isThrown 28 = .ok (.aload_n 0, 1) := by decide +kernel
theorem dL_isThrown_29 : decode cL_isThrown 29 = .ok (.bipush 8, 2) := by decide +kernel
theorem dL_isThrown_31 : decode cL_isThrown 31 = .ok (.iconst 0, 1) := by decide +kernel
theorem dL_isThrown_32 : decode cL_isThrown 32 = .ok (.bipush 9, 2) := by decide +kernel
theorem dL_isThrown_34 : decode cL_isThrown 34 = .ok (.iconst 0, 1) := by decide +kernel
theorem dL_isThrown_35 : decode cL_isThrown 35 = .ok (.invokestatic 143, 3) := by decide +kernel
theorem dL_isThrown_38 : decode cL_isThrown 38 = .ok (.bipush (-77), 2) := by decide +kernel
theorem dL_isThrown_40 : decode cL_isThrown 40 = .ok (.if_icmp .ne 96, 3) := by decide +kernel
theorem dL_isThrown_43 : decode cL_isThrown 43 = .ok (.aload_n 0, 1) := by decide +kernel
theorem dL_isThrown_44 : decode cL_isThrown 44 = .ok (.bipush 8, 2) := by decide +kernel
theorem dL_isThrown_46 : decode cL_isThrown 46 = .ok (.iconst 0, 1) := by decide +kernel
theorem dL_isThrown_47 : decode cL_isThrown 47 = .ok (.iconst 0, 1) := by decide +kernel
theorem dL_isThrown_48 : decode cL_isThrown 48 = .ok (.invokestatic 146, 3) := by decide +kernel
theorem dL_isThrown_51 : decode cL_isThrown 51 = .ok (.bipush (-77), 2) := by decide +kernel
theorem dL_isThrown_53 : decode cL_isThrown 53 = .ok (.if_icmp .ne 83, 3) := by decide +kernel
theorem dL_isThrown_56 : decode cL_isThrown 56 = .ok (.aload_n 0, 1) := by decide +kernel
theorem dL_isThrown_57 : decode cL_isThrown 57 = .ok (.bipush 9, 2) := by decide +kernel
theorem dL_isThrown_59 : decode cL_isThrown 59 = .ok (.iconst 0, 1) := by decide +kernel
theorem dL_isThrown_60 : decode cL_isThrown 60 = .ok (.bipush 117, 2) := by decide +kernel
theorem dL_isThrown_62 : decode cL_isThrown 62 = .ok (.iconst 2, 1) := by decide +kernel
theorem dL_isThrown_63 : decode cL_isThrown 63 = .ok (.iconst 1, 1) := by decide +kernel
theorem dL_isThrown_64 : decode cL_isThrown 64 = .ok (.invokestatic 151, 3) := by decide +kernel
theorem dL_isThrown_67 : decode cL_isThrown 67 = .ok (.bipush (-77), 2) := by decide +kernel
theorem dL_isThrown_69 : decode cL_isThrown 69 = .ok (.if_icmp .ne 67, 3) := by decide +kernel
theorem dL_isThrown_72 : decode cL_isThrown 72 = .ok (.aload_n 0, 1) := by decide +kernel
theorem dL_isThrown_73 : decode cL_isThrown 73 = .ok (.bipush 9, 2) := by decide +kernel
theorem dL_isThrown_75 : decode cL_isThrown 75 = .ok (.bipush 30, 2) := by decide +kernel
theorem dL_isThrown_77 : decode cL_isThrown 77 = .ok (.invokestatic 159, 3) := by decide +kernel
theorem dL_isThrown_80 : decode cL_isThrown 80 = .ok (.bipush (-77), 2) := by decide +kernel
theorem dL_isThrown_82 : decode cL_isThrown 82 = .ok (.if_icmp .ne 54, 3) := by decide +kernel
theorem dL_isThrown_85 : decode cL_isThrown 85 = .ok (.aload_n 0, 1) := by decide +kernel
theorem dL_isThrown_86 : decode cL_isThrown 86 = .ok (.iconst 0, 1) := by decide +kernel
theorem dL_isThrown_87 : decode cL_isThrown 87 = .ok (.bipush 9, 2) := by decide +kernel
theorem dL_isThrown_89 : decode cL_isThrown 89 = .ok (.iconst 0, 1) := by decide +kernel
theorem dL_isThrown_90 : decode cL_isThrown 90 = .ok (.invokestatic 154, 3) := by decide +kernel
theorem dL_isThrown_93 : decode cL_isThrown 93 = .ok (.bipush (-78), 2) := by decide +kernel
theorem dL_isThrown_95 : decode cL_isThrown 95 = .ok (.if_icmp .ne 41, 3) := by decide +kernel
theorem dL_isThrown_98 : decode cL_isThrown 98 = .ok (.aload_n 0, 1) := by decide +kernel
theorem dL_isThrown_99 : decode cL_isThrown 99 = .ok (.iconst (-1), 1) := by decide +kernel
theorem dL_isThrown_100 : decode cL_isThrown 100 = .ok (.invokestatic 156, 3) := by decide +kernel
theorem dL_isThrown_103 : decode cL_isThrown 103 = .ok (.bipush (-78), 2) := by decide +kernel
theorem dL_isThrown_105 : decode cL_isThrown 105 = .ok (.if_icmp .ne 31, 3) := by decide +kernel
theorem dL_isThrown_108 : decode cL_isThrown 108 = .ok (.aload_n 0, 1) := by decide +kernel
theorem dL_isThrown_109 : decode cL_isThrown 109 = .ok (.bipush 9, 2) := by decide +kernel
theorem dL_isThrown_111 : decode cL_isThrown 111 = .ok (.invokestatic 206, 3) := by decide +kernel
theorem dL_isThrown_114 : decode cL_isThrown 114 = .ok (.ldc2_w 38, 3) := by decide +kernel
theorem dL_isThrown_117 : decode cL_isThrown 117 = .ok (.lcmp, 1) := by decide +kernel
theorem dL_isThrown_118 : decode cL_isThrown 118 = .ok (.ifCond .ne 18, 3) := by decide +kernel
theorem dL_isThrown_121 : decode cL_isThrown 121 = .ok (.aload_n 0, 1) := by decide +kernel
theorem dL_isThrown_122 : decode cL_isThrown 122 = .ok (.bipush 31, 2) := by decide +kernel
theorem dL_isThrown_124 : decode cL_isThrown 124 = .ok (.invokestatic 201, 3) := by decide +kernel
theorem dL_isThrown_127 : decode cL_isThrown 127 = .ok (.bipush (-78), 2) := by decide +kernel
theorem dL_isThrown_129 : decode cL_isThrown 129 = .ok (.if_icmp .ne 7, 3) := by decide +kernel
theorem dL_isThrown_132 : decode cL_isThrown 132 = .ok (.iconst 1, 1) := by decide +kernel
theorem dL_isThrown_133 : decode cL_isThrown 133 = .ok (.goto 4, 3) := by decide +kernel
theorem dL_isThrown_136 : decode cL_isThrown 136 = .ok (.iconst 0, 1) := by decide +kernel
theorem dL_isThrown_137 : decode cL_isThrown 137 = .ok (.istore 4, 2) := by decide +kernel
theorem dL_isThrown_139 : decode cL_isThrown 139 = .ok (.iload 4, 2) := by decide +kernel
theorem dL_isThrown_141 : decode cL_isThrown 141 = .ok (.ifCond .eq 31, 3) := by decide +kernel
theorem dL_isThrown_144 : decode cL_isThrown 144 = .ok (.aload_n 0, 1) := by decide +kernel
theorem dL_isThrown_145 : decode cL_isThrown 145 = .ok (.invokevirtual 186, 3) := by decide +kernel
theorem dL_isThrown_148 : decode cL_isThrown 148 = .ok (.iload_n 1, 1) := by decide +kernel
theorem dL_isThrown_149 : decode cL_isThrown 149 = .ok (.if_icmp .ne 23, 3) := by decide +kernel
theorem dL_isThrown_152 : decode cL_isThrown 152 = .ok (.aload_n 0, 1) := by decide +kernel
theorem dL_isThrown_153 : decode cL_isThrown 153 = .ok (.invokevirtual 234, 3) := by decide +kernel
theorem dL_isThrown_156 : decode cL_isThrown 156 = .ok (.iload_n 2, 1) := by decide +kernel
theorem dL_isThrown_157 : decode cL_isThrown 157 = .ok (.if_icmp .ne 15, 3) := by decide +kernel
theorem dL_isThrown_160 : decode cL_isThrown 160 = .ok (.aload_n 0, 1) := by decide +kernel
theorem dL_isThrown_161 : decode cL_isThrown 161 = .ok (.invokevirtual 251, 3) := by decide +kernel
theorem dL_isThrown_164 : decode cL_isThrown 164 = .ok (.iload_n 3, 1) := by decide +kernel
theorem dL_isThrown_165 : decode cL_isThrown 165 = .ok (.if_icmp .ne 7, 3) := by decide +kernel
theorem dL_isThrown_168 : decode cL_isThrown 168 = .ok (.iconst 1, 1) := by decide +kernel
theorem dL_isThrown_169 : decode cL_isThrown 169 = .ok (.goto 4, 3) := by decide +kernel
theorem dL_isThrown_172 : decode cL_isThrown 172 = .ok (.iconst 0, 1) := by decide +kernel
theorem dL_isThrown_173 : decode cL_isThrown 173 = .ok (.ireturn, 1) := by decide +kernel
end
section
theorem gw0 : Cond.selects RX1 yX1_findPulls yX1_findPulls ∈ GW := gw_of (i := 0) (by decide +kernel) rfl
theorem gw1 : Cond.selects RX1 yX1_fillRows yX1_fillRows ∈ GW := gw_of (i := 1) (by decide +kernel) rfl
theorem gw2 : Cond.selects RX1 yX1_findDeterminants yX1_findDeterminants ∈ GW := gw_of (i := 2) (by decide +kernel) rfl
theorem gw3 : Cond.selects RX1 yX1_expanded yX1_expanded ∈ GW := gw_of (i := 3) (by decide +kernel) rfl
theorem gw4 : Cond.selects RX1 yX1_setPull yX1_setPull ∈ GW := gw_of (i := 4) (by decide +kernel) rfl
theorem gw5 : Cond.selects RX1 yX1_carry yX1_carry ∈ GW := gw_of (i := 5) (by decide +kernel) rfl
theorem gw6 : Cond.selects RX1 yX1_findBearings yX1_findBearings ∈ GW := gw_of (i := 6) (by decide +kernel) rfl
theorem gw7 : Cond.selects RX1 yX1_findAmounts yX1_findAmounts ∈ GW := gw_of (i := 7) (by decide +kernel) rfl
theorem gw8 : Cond.selects RX1 yX1_timesLength yX1_timesLength ∈ GW := gw_of (i := 8) (by decide +kernel) rfl
theorem gw9 : Cond.selects RX1 yX1_holdsAlong yX1_holdsAlong ∈ GW := gw_of (i := 9) (by decide +kernel) rfl
theorem gw10 : Cond.selects RX4 yX4_gather yX4_gather ∈ GW := gw_of (i := 10) (by decide +kernel) rfl
theorem gw11 : Cond.selects RX4 yX4_goForward yX4_goForward ∈ GW := gw_of (i := 11) (by decide +kernel) rfl
theorem gw12 : Cond.selects RX4 yX4_canMoveIn yX4_canMoveIn ∈ GW := gw_of (i := 12) (by decide +kernel) rfl
theorem gw13 : Cond.selects RX4 yX4_goBackward yX4_goBackward ∈ GW := gw_of (i := 13) (by decide +kernel) rfl
theorem gw14 : Cond.selects RX4 yX4_findOrder yX4_findOrder ∈ GW := gw_of (i := 14) (by decide +kernel) rfl
theorem gw15 : Cond.selects RX4 yX4_firstThatLeads yX4_firstThatLeads ∈ GW := gw_of (i := 15) (by decide +kernel) rfl
theorem gw17 : Cond.selects RX6 yX6_checkNode yX6_checkNode ∈ GW := gw_of (i := 17) (by decide +kernel) rfl
theorem gw18 : Cond.selects RX6 yX6_checkMember yX6_checkMember ∈ GW := gw_of (i := 18) (by decide +kernel) rfl
theorem gw19 : Cond.selects RX6 yX6_checkMoisture yX6_checkMoisture ∈ GW := gw_of (i := 19) (by decide +kernel) rfl
theorem gw20 : Cond.selects RX6 yX6_checkStanding yX6_checkStanding ∈ GW := gw_of (i := 20) (by decide +kernel) rfl
theorem gw21 : Cond.selects RX1 yX1_restInThousandths yX1_restInThousandths ∈ GW := gw_of (i := 21) (by decide +kernel) rfl
theorem gw22 : Cond.selects RX6 yX6_checkJoint yX6_checkJoint ∈ GW := gw_of (i := 22) (by decide +kernel) rfl
theorem gw23 : Cond.selects RX6 yX6_checkCut yX6_checkCut ∈ GW := gw_of (i := 23) (by decide +kernel) rfl
theorem gw24 : Cond.selects RX0 yX0_measure yX0_measure ∈ GW := gw_of (i := 24) (by decide +kernel) rfl
theorem gw25 : Cond.selects RX0 yX0_fitting yX0_fitting ∈ GW := gw_of (i := 25) (by decide +kernel) rfl
theorem gw26 : Cond.selects RX0 yX0_offer yX0_offer ∈ GW := gw_of (i := 26) (by decide +kernel) rfl
theorem gw27 : Cond.selects RX0 yX0_choose yX0_choose ∈ GW := gw_of (i := 27) (by decide +kernel) rfl
theorem gw28 : Cond.selects RX6 yX6_checkPlaceInOrder yX6_checkPlaceInOrder ∈ GW := gw_of (i := 28) (by decide +kernel) rfl
theorem gw29 : Cond.initialized RL ∈ GW := gw_of (i := 29) (by decide +kernel) rfl
theorem gw30 : Cond.initialized RX6 ∈ GW := gw_of (i := 30) (by decide +kernel) rfl
theorem gw31 : Cond.initialized RX2 ∈ GW := gw_of (i := 31) (by decide +kernel) rfl
theorem gw32 : Cond.initialized RX1 ∈ GW := gw_of (i := 32) (by decide +kernel) rfl
theorem gw33 : Cond.initialized RX5 ∈ GW := gw_of (i := 33) (by decide +kernel) rfl
theorem gw34 : Cond.initialized RX3 ∈ GW := gw_of (i := 34) (by decide +kernel) rfl
theorem gw35 : Cond.initialized RX0 ∈ GW := gw_of (i := 35) (by decide +kernel) rfl
theorem gw36 : Cond.initialized RX4 ∈ GW := gw_of (i := 36) (by decide +kernel) rfl
theorem gw37 : Cond.initialized RJ0 ∈ GW := gw_of (i := 37) (by decide +kernel) rfl
theorem gw38 : Cond.initialized RJ1 ∈ GW := gw_of (i := 38) (by decide +kernel) rfl
theorem gw39 : Cond.initialized RJ3 ∈ GW := gw_of (i := 39) (by decide +kernel) rfl
theorem gw40 : Cond.initialized RJ2 ∈ GW := gw_of (i := 40) (by decide +kernel) rfl
theorem gw41 : Cond.initialized RJ9 ∈ GW := gw_of (i := 41) (by decide +kernel) rfl
theorem gw42 : Cond.initialized RJ11 ∈ GW := gw_of (i := 42) (by decide +kernel) rfl
theorem gw43 : Cond.initialized "java/lang/Throwable" ∈ GW := gw_of (i := 43) (by decide +kernel) rfl
theorem gw44 : Cond.initialized "java/lang/Exception" ∈ GW := gw_of (i := 44) (by decide +kernel) rfl
theorem gw45 : Cond.initialized "java/lang/RuntimeException" ∈ GW := gw_of (i := 45) (by decide +kernel) rfl
theorem gw46 : Cond.initialized "java/lang/IllegalArgumentException" ∈ GW := gw_of (i := 46) (by decide +kernel) rfl
theorem gw47 : Cond.initialized "java/lang/IllegalStateException" ∈ GW := gw_of (i := 47) (by decide +kernel) rfl
theorem gw48 : Cond.initialized "java/lang/IndexOutOfBoundsException" ∈ GW := gw_of (i := 48) (by decide +kernel) rfl
theorem gw49 : Cond.initialized RJx00060 ∈ GW := gw_of (i := 49) (by decide +kernel) rfl
theorem gw50 : Cond.initialized "java/lang/UnsupportedOperationException" ∈ GW := gw_of (i := 50) (by decide +kernel) rfl
theorem gw51 : Cond.initialized RJ6 ∈ GW := gw_of (i := 51) (by decide +kernel) rfl
theorem gw52 : Cond.initialized "java/util/NoSuchElementException" ∈ GW := gw_of (i := 52) (by decide +kernel) rfl
theorem gw53 : Cond.initialized "java/lang/ArithmeticException" ∈ GW := gw_of (i := 53) (by decide +kernel) rfl
theorem gw54 : Cond.classLink RL 15 RX6 ∈ GW := gw_of (i := 54) (by decide +kernel) rfl
theorem gw55 : Cond.instantiable RX6 5 ∈ GW := gw_of (i := 55) (by decide +kernel) rfl
theorem gw56 : Cond.methodLink RL 127 yX6_init ∈ GW := gw_of (i := 56) (by decide +kernel) rfl
theorem gw57 : Cond.instanceMethod yX6_init ∈ GW := gw_of (i := 57) (by decide +kernel) rfl
theorem gw58 : Cond.code yX6_init cX6_init 1 none ∈ GW := gw_of (i := 58) (by decide +kernel) rfl
theorem gw59 : Cond.methodLink RX6 3 objectInit ∈ GW := gw_of (i := 59) (by decide +kernel) rfl
theorem gw60 : Cond.instanceMethod objectInit ∈ GW := gw_of (i := 60) (by decide +kernel) rfl
theorem gw61 : Cond.code objectInit ⟨#[0xb1]⟩ 1 none ∈ GW := gw_of (i := 61) (by decide +kernel) rfl
theorem gw62 : Cond.classLink RX6 9 RX2 ∈ GW := gw_of (i := 62) (by decide +kernel) rfl
theorem gw63 : Cond.instantiable RX2 12 ∈ GW := gw_of (i := 63) (by decide +kernel) rfl
theorem gw64 : Cond.methodLinkNest RX6 11 yX2_init "Tenonyard" ∈ NW := nw_of (i := 64) (by decide +kernel) rfl
theorem gw65 : Cond.instanceMethod yX2_init ∈ GW := gw_of (i := 65) (by decide +kernel) rfl
theorem gw66 : Cond.code yX2_init cX2_init 1 none ∈ GW := gw_of (i := 66) (by decide +kernel) rfl
theorem gw67 : Cond.methodLink RX2 3 objectInit ∈ GW := gw_of (i := 67) (by decide +kernel) rfl
theorem gw68 : Cond.fieldLink RX2 43 "Tenonyard$Frame" "nodes" "I" ∈ GW := gw_of (i := 68) (by decide +kernel) rfl
theorem gw69 : Cond.fieldLink RX6 63 "Tenonyard$Frame" "nodes" "I" ∈ GW := gw_of (i := 69) (by decide +kernel) rfl
theorem gw70 : Cond.fieldLink RX1 78 "Tenonyard$Frame" "nodes" "I" ∈ GW := gw_of (i := 70) (by decide +kernel) rfl
theorem gw71 : Cond.fieldLink RX2 47 "Tenonyard$Frame" "members" "I" ∈ GW := gw_of (i := 71) (by decide +kernel) rfl
theorem gw72 : Cond.fieldLink RX4 41 "Tenonyard$Frame" "members" "I" ∈ GW := gw_of (i := 72) (by decide +kernel) rfl
theorem gw73 : Cond.fieldLink RX6 93 "Tenonyard$Frame" "members" "I" ∈ GW := gw_of (i := 73) (by decide +kernel) rfl
theorem gw74 : Cond.fieldLink RX0 53 "Tenonyard$Frame" "members" "I" ∈ GW := gw_of (i := 74) (by decide +kernel) rfl
theorem gw75 : Cond.fieldLink RX1 88 "Tenonyard$Frame" "members" "I" ∈ GW := gw_of (i := 75) (by decide +kernel) rfl
theorem gw76 : Cond.fieldLink RX2 9 "Tenonyard$Frame" "places" "[I" ∈ GW := gw_of (i := 76) (by decide +kernel) rfl
theorem gw77 : Cond.fieldLink RX1 189 "Tenonyard$Frame" "places" "[I" ∈ GW := gw_of (i := 77) (by decide +kernel) rfl
theorem gw78 : Cond.fieldLink RX2 15 "Tenonyard$Frame" "loads" "[I" ∈ GW := gw_of (i := 78) (by decide +kernel) rfl
theorem gw79 : Cond.fieldLink RX1 116 "Tenonyard$Frame" "loads" "[I" ∈ GW := gw_of (i := 79) (by decide +kernel) rfl
theorem gw80 : Cond.fieldLink RX2 18 "Tenonyard$Frame" "loadCounts" "[I" ∈ GW := gw_of (i := 80) (by decide +kernel) rfl
theorem gw81 : Cond.fieldLink RX2 21 "Tenonyard$Frame" "kinds" "[C" ∈ GW := gw_of (i := 81) (by decide +kernel) rfl
theorem gw82 : Cond.fieldLink RX2 25 "Tenonyard$Frame" "firstNodes" "[I" ∈ GW := gw_of (i := 82) (by decide +kernel) rfl
theorem gw83 : Cond.fieldLink RX2 28 "Tenonyard$Frame" "secondNodes" "[I" ∈ GW := gw_of (i := 83) (by decide +kernel) rfl
theorem gw84 : Cond.fieldLink RX2 31 "Tenonyard$Frame" "breadths" "[I" ∈ GW := gw_of (i := 84) (by decide +kernel) rfl
theorem gw85 : Cond.fieldLink RX0 79 "Tenonyard$Frame" "breadths" "[I" ∈ GW := gw_of (i := 85) (by decide +kernel) rfl
theorem gw86 : Cond.fieldLink RX3 43 "Tenonyard$Frame" "breadths" "[I" ∈ GW := gw_of (i := 86) (by decide +kernel) rfl
theorem gw87 : Cond.fieldLink RX2 34 "Tenonyard$Frame" "grades" "[I" ∈ GW := gw_of (i := 87) (by decide +kernel) rfl
theorem gw88 : Cond.fieldLink RX0 80 "Tenonyard$Frame" "grades" "[I" ∈ GW := gw_of (i := 88) (by decide +kernel) rfl
theorem gw89 : Cond.fieldLink RX2 37 "Tenonyard$Frame" "cutMoistures" "[I" ∈ GW := gw_of (i := 89) (by decide +kernel) rfl
theorem gw90 : Cond.fieldLink RX3 56 "Tenonyard$Frame" "cutMoistures" "[I" ∈ GW := gw_of (i := 90) (by decide +kernel) rfl
theorem gw91 : Cond.fieldLink RX6 195 "Tenonyard$Frame" "cutMoistures" "[I" ∈ GW := gw_of (i := 91) (by decide +kernel) rfl
theorem gw92 : Cond.fieldLink RX2 40 "Tenonyard$Frame" "driedMoistures" "[I" ∈ GW := gw_of (i := 92) (by decide +kernel) rfl
theorem gw93 : Cond.fieldLink RX3 59 "Tenonyard$Frame" "driedMoistures" "[I" ∈ GW := gw_of (i := 93) (by decide +kernel) rfl
theorem gw94 : Cond.fieldLink RX6 199 "Tenonyard$Frame" "driedMoistures" "[I" ∈ GW := gw_of (i := 94) (by decide +kernel) rfl
theorem gw120 : Cond.arrayClass .int ∈ GW := gw_of (i := 120) (by decide +kernel) rfl
theorem gw121 : Cond.arrayClass .char ∈ GW := gw_of (i := 121) (by decide +kernel) rfl
theorem gw122 : Cond.classLink RX6 16 RX1 ∈ GW := gw_of (i := 122) (by decide +kernel) rfl
theorem gw123 : Cond.instantiable RX1 17 ∈ GW := gw_of (i := 123) (by decide +kernel) rfl
theorem gw124 : Cond.methodLinkNest RX6 18 yX1_init "Tenonyard" ∈ NW := nw_of (i := 124) (by decide +kernel) rfl
theorem gw125 : Cond.instanceMethod yX1_init ∈ GW := gw_of (i := 125) (by decide +kernel) rfl
theorem gw126 : Cond.code yX1_init cX1_init 1 none ∈ GW := gw_of (i := 126) (by decide +kernel) rfl
theorem gw127 : Cond.methodLink RX1 3 objectInit ∈ GW := gw_of (i := 127) (by decide +kernel) rfl
theorem gw128 : Cond.classLink RX1 40 RX5 ∈ GW := gw_of (i := 128) (by decide +kernel) rfl
theorem gw129 : Cond.instantiable RX5 1 ∈ GW := gw_of (i := 129) (by decide +kernel) rfl
theorem gw130 : Cond.methodLinkNest RX1 42 yX5_init "Tenonyard" ∈ NW := nw_of (i := 130) (by decide +kernel) rfl
theorem gw131 : Cond.instanceMethod yX5_init ∈ GW := gw_of (i := 131) (by decide +kernel) rfl
theorem gw132 : Cond.code yX5_init cX5_init 1 none ∈ GW := gw_of (i := 132) (by decide +kernel) rfl
theorem gw133 : Cond.methodLink RX5 1 objectInit ∈ GW := gw_of (i := 133) (by decide +kernel) rfl
theorem gw134 : Cond.fieldLink RX5 9 "Tenonyard$Wide" "parts" "[J" ∈ GW := gw_of (i := 134) (by decide +kernel) rfl
theorem gw138 : Cond.arrayClass .long ∈ GW := gw_of (i := 138) (by decide +kernel) rfl
theorem gw139 : Cond.fieldLink RX6 72 "Tenonyard$Forces" "isFound" "Z" ∈ GW := gw_of (i := 139) (by decide +kernel) rfl
theorem gw140 : Cond.fieldLink RX1 59 "Tenonyard$Forces" "isFound" "Z" ∈ GW := gw_of (i := 140) (by decide +kernel) rfl
theorem gw141 : Cond.fieldLink RX1 67 "Tenonyard$Forces" "outcome" "C" ∈ GW := gw_of (i := 141) (by decide +kernel) rfl
theorem gw142 : Cond.fieldLink RX6 114 "Tenonyard$Forces" "outcome" "C" ∈ GW := gw_of (i := 142) (by decide +kernel) rfl
theorem gw143 : Cond.fieldLink RX1 104 "Tenonyard$Forces" "divisor" "J" ∈ GW := gw_of (i := 143) (by decide +kernel) rfl
theorem gw144 : Cond.fieldLink RX1 11 "Tenonyard$Forces" "wholes" "[J" ∈ GW := gw_of (i := 144) (by decide +kernel) rfl
theorem gw145 : Cond.fieldLink RX1 15 "Tenonyard$Forces" "rests" "[J" ∈ GW := gw_of (i := 145) (by decide +kernel) rfl
theorem gw146 : Cond.fieldLink RX1 18 "Tenonyard$Forces" "amounts" "[J" ∈ GW := gw_of (i := 146) (by decide +kernel) rfl
theorem gw147 : Cond.fieldLink RX6 124 "Tenonyard$Forces" "amounts" "[J" ∈ GW := gw_of (i := 147) (by decide +kernel) rfl
theorem gw148 : Cond.fieldLink RX1 21 "Tenonyard$Forces" "ways" "[I" ∈ GW := gw_of (i := 148) (by decide +kernel) rfl
theorem gw149 : Cond.fieldLink RX1 25 "Tenonyard$Forces" "highAsked" "[I" ∈ GW := gw_of (i := 149) (by decide +kernel) rfl
theorem gw150 : Cond.fieldLink RX1 28 "Tenonyard$Forces" "lowAsked" "[I" ∈ GW := gw_of (i := 150) (by decide +kernel) rfl
theorem gw151 : Cond.fieldLink RX1 31 "Tenonyard$Forces" "plain" "[J" ∈ GW := gw_of (i := 151) (by decide +kernel) rfl
theorem gw152 : Cond.fieldLink RX1 34 "Tenonyard$Forces" "high" "[J" ∈ GW := gw_of (i := 152) (by decide +kernel) rfl
theorem gw153 : Cond.fieldLink RX1 37 "Tenonyard$Forces" "low" "[J" ∈ GW := gw_of (i := 153) (by decide +kernel) rfl
theorem gw154 : Cond.fieldLink RX1 43 "Tenonyard$Forces" "factor" "LTenonyard$Wide;" ∈ GW := gw_of (i := 154) (by decide +kernel) rfl
theorem gw155 : Cond.fieldLink RX1 47 "Tenonyard$Forces" "wideDivisor" "LTenonyard$Wide;" ∈ GW := gw_of (i := 155) (by decide +kernel) rfl
theorem gw156 : Cond.fieldLink RX1 50 "Tenonyard$Forces" "product" "LTenonyard$Wide;" ∈ GW := gw_of (i := 156) (by decide +kernel) rfl
theorem gw157 : Cond.fieldLink RX1 53 "Tenonyard$Forces" "square" "LTenonyard$Wide;" ∈ GW := gw_of (i := 157) (by decide +kernel) rfl
theorem gw158 : Cond.fieldLink RX1 56 "Tenonyard$Forces" "greatestSquare" "LTenonyard$Wide;" ∈ GW := gw_of (i := 158) (by decide +kernel) rfl
theorem gw194 : Cond.classLink RX6 23 RX3 ∈ GW := gw_of (i := 194) (by decide +kernel) rfl
theorem gw195 : Cond.instantiable RX3 6 ∈ GW := gw_of (i := 195) (by decide +kernel) rfl
theorem gw196 : Cond.methodLinkNest RX6 25 yX3_init "Tenonyard" ∈ NW := nw_of (i := 196) (by decide +kernel) rfl
theorem gw197 : Cond.instanceMethod yX3_init ∈ GW := gw_of (i := 197) (by decide +kernel) rfl
theorem gw198 : Cond.code yX3_init cX3_init 1 none ∈ GW := gw_of (i := 198) (by decide +kernel) rfl
theorem gw199 : Cond.methodLink RX3 3 objectInit ∈ GW := gw_of (i := 199) (by decide +kernel) rfl
theorem gw200 : Cond.fieldLink RX3 35 "Tenonyard$Joinery" "count" "I" ∈ GW := gw_of (i := 200) (by decide +kernel) rfl
theorem gw201 : Cond.fieldLink RX4 67 "Tenonyard$Joinery" "count" "I" ∈ GW := gw_of (i := 201) (by decide +kernel) rfl
theorem gw202 : Cond.fieldLink RX6 170 "Tenonyard$Joinery" "count" "I" ∈ GW := gw_of (i := 202) (by decide +kernel) rfl
theorem gw203 : Cond.fieldLink RX3 9 "Tenonyard$Joinery" "goingIn" "[I" ∈ GW := gw_of (i := 203) (by decide +kernel) rfl
theorem gw204 : Cond.fieldLink RX3 15 "Tenonyard$Joinery" "receiving" "[I" ∈ GW := gw_of (i := 204) (by decide +kernel) rfl
theorem gw205 : Cond.fieldLink RX3 18 "Tenonyard$Joinery" "ways" "[I" ∈ GW := gw_of (i := 205) (by decide +kernel) rfl
theorem gw206 : Cond.fieldLink RX3 21 "Tenonyard$Joinery" "thicknesses" "[I" ∈ GW := gw_of (i := 206) (by decide +kernel) rfl
theorem gw207 : Cond.fieldLink RX3 24 "Tenonyard$Joinery" "marks" "[I" ∈ GW := gw_of (i := 207) (by decide +kernel) rfl
theorem gw221 : Cond.classLink RX6 30 RX0 ∈ GW := gw_of (i := 221) (by decide +kernel) rfl
theorem gw222 : Cond.instantiable RX0 11 ∈ GW := gw_of (i := 222) (by decide +kernel) rfl
theorem gw223 : Cond.methodLinkNest RX6 32 yX0_init "Tenonyard" ∈ NW := nw_of (i := 223) (by decide +kernel) rfl
theorem gw224 : Cond.instanceMethod yX0_init ∈ GW := gw_of (i := 224) (by decide +kernel) rfl
theorem gw225 : Cond.code yX0_init cX0_init 1 none ∈ GW := gw_of (i := 225) (by decide +kernel) rfl
theorem gw226 : Cond.methodLink RX0 3 objectInit ∈ GW := gw_of (i := 226) (by decide +kernel) rfl
theorem gw227 : Cond.fieldLink RX0 34 "Tenonyard$Cutting" "count" "I" ∈ GW := gw_of (i := 227) (by decide +kernel) rfl
theorem gw228 : Cond.fieldLink RX6 210 "Tenonyard$Cutting" "count" "I" ∈ GW := gw_of (i := 228) (by decide +kernel) rfl
theorem gw229 : Cond.fieldLink RX6 98 "Tenonyard$Cutting" "isFound" "Z" ∈ GW := gw_of (i := 229) (by decide +kernel) rfl
theorem gw230 : Cond.fieldLink RX0 49 "Tenonyard$Cutting" "isFound" "Z" ∈ GW := gw_of (i := 230) (by decide +kernel) rfl
theorem gw231 : Cond.fieldLink RX0 89 "Tenonyard$Cutting" "canCut" "Z" ∈ GW := gw_of (i := 231) (by decide +kernel) rfl
theorem gw232 : Cond.fieldLink RX6 291 "Tenonyard$Cutting" "canCut" "Z" ∈ GW := gw_of (i := 232) (by decide +kernel) rfl
theorem gw233 : Cond.fieldLink RX0 92 "Tenonyard$Cutting" "usedLength" "I" ∈ GW := gw_of (i := 233) (by decide +kernel) rfl
theorem gw234 : Cond.fieldLink RX6 225 "Tenonyard$Cutting" "usedLength" "I" ∈ GW := gw_of (i := 234) (by decide +kernel) rfl
theorem gw235 : Cond.fieldLink RX0 9 "Tenonyard$Cutting" "chosen" "[I" ∈ GW := gw_of (i := 235) (by decide +kernel) rfl
theorem gw236 : Cond.fieldLink RX6 222 "Tenonyard$Cutting" "chosen" "[I" ∈ GW := gw_of (i := 236) (by decide +kernel) rfl
theorem gw237 : Cond.fieldLink RX0 15 "Tenonyard$Cutting" "lengths" "[I" ∈ GW := gw_of (i := 237) (by decide +kernel) rfl
theorem gw238 : Cond.fieldLink RX0 18 "Tenonyard$Cutting" "breadths" "[I" ∈ GW := gw_of (i := 238) (by decide +kernel) rfl
theorem gw239 : Cond.fieldLink RX0 21 "Tenonyard$Cutting" "grades" "[I" ∈ GW := gw_of (i := 239) (by decide +kernel) rfl
theorem gw240 : Cond.fieldLink RX0 24 "Tenonyard$Cutting" "spans" "[I" ∈ GW := gw_of (i := 240) (by decide +kernel) rfl
theorem gw241 : Cond.fieldLink RX0 27 "Tenonyard$Cutting" "weights" "[I" ∈ GW := gw_of (i := 241) (by decide +kernel) rfl
theorem gw242 : Cond.fieldLink RX0 30 "Tenonyard$Cutting" "costs" "[J" ∈ GW := gw_of (i := 242) (by decide +kernel) rfl
theorem gw266 : Cond.classLink RX6 37 RX4 ∈ GW := gw_of (i := 266) (by decide +kernel) rfl
theorem gw267 : Cond.instantiable RX4 9 ∈ GW := gw_of (i := 267) (by decide +kernel) rfl
theorem gw268 : Cond.methodLinkNest RX6 39 yX4_init "Tenonyard" ∈ NW := nw_of (i := 268) (by decide +kernel) rfl
theorem gw269 : Cond.instanceMethod yX4_init ∈ GW := gw_of (i := 269) (by decide +kernel) rfl
theorem gw270 : Cond.code yX4_init cX4_init 1 none ∈ GW := gw_of (i := 270) (by decide +kernel) rfl
theorem gw271 : Cond.methodLink RX4 3 objectInit ∈ GW := gw_of (i := 271) (by decide +kernel) rfl
theorem gw272 : Cond.fieldLink RX4 9 "Tenonyard$Raising" "limit" "I" ∈ GW := gw_of (i := 272) (by decide +kernel) rfl
theorem gw273 : Cond.fieldLink RX6 238 "Tenonyard$Raising" "limit" "I" ∈ GW := gw_of (i := 273) (by decide +kernel) rfl
theorem gw274 : Cond.fieldLink RX4 37 "Tenonyard$Raising" "isFound" "Z" ∈ GW := gw_of (i := 274) (by decide +kernel) rfl
theorem gw275 : Cond.fieldLink RX6 99 "Tenonyard$Raising" "isFound" "Z" ∈ GW := gw_of (i := 275) (by decide +kernel) rfl
theorem gw276 : Cond.fieldLink RX4 34 "Tenonyard$Raising" "all" "I" ∈ GW := gw_of (i := 276) (by decide +kernel) rfl
theorem gw277 : Cond.fieldLink RX4 60 "Tenonyard$Raising" "hanging" "I" ∈ GW := gw_of (i := 277) (by decide +kernel) rfl
theorem gw278 : Cond.fieldLink RX4 17 "Tenonyard$Raising" "asking" "[I" ∈ GW := gw_of (i := 278) (by decide +kernel) rfl
theorem gw279 : Cond.fieldLink RX4 21 "Tenonyard$Raising" "joined" "[I" ∈ GW := gw_of (i := 279) (by decide +kernel) rfl
theorem gw280 : Cond.fieldLink RX4 24 "Tenonyard$Raising" "orderCounts" "[I" ∈ GW := gw_of (i := 280) (by decide +kernel) rfl
theorem gw281 : Cond.fieldLink RX4 27 "Tenonyard$Raising" "leadsToAll" "[Z" ∈ GW := gw_of (i := 281) (by decide +kernel) rfl
theorem gw282 : Cond.fieldLink RX6 254 "Tenonyard$Raising" "leadsToAll" "[Z" ∈ GW := gw_of (i := 282) (by decide +kernel) rfl
theorem gw283 : Cond.fieldLink RX4 31 "Tenonyard$Raising" "order" "[I" ∈ GW := gw_of (i := 283) (by decide +kernel) rfl
theorem gw284 : Cond.fieldLink RX6 244 "Tenonyard$Raising" "order" "[I" ∈ GW := gw_of (i := 284) (by decide +kernel) rfl
theorem gw304 : Cond.arrayClass .boolean ∈ GW := gw_of (i := 304) (by decide +kernel) rfl
theorem gw305 : Cond.fieldLink RX6 12 "Tenonyard" "frame" "LTenonyard$Frame;" ∈ GW := gw_of (i := 305) (by decide +kernel) rfl
theorem gw306 : Cond.fieldLink RX6 19 "Tenonyard" "forces" "LTenonyard$Forces;" ∈ GW := gw_of (i := 306) (by decide +kernel) rfl
theorem gw307 : Cond.fieldLink RX6 26 "Tenonyard" "joinery" "LTenonyard$Joinery;" ∈ GW := gw_of (i := 307) (by decide +kernel) rfl
theorem gw308 : Cond.fieldLink RX6 33 "Tenonyard" "cutting" "LTenonyard$Cutting;" ∈ GW := gw_of (i := 308) (by decide +kernel) rfl
theorem gw309 : Cond.fieldLink RX6 40 "Tenonyard" "raising" "LTenonyard$Raising;" ∈ GW := gw_of (i := 309) (by decide +kernel) rfl
theorem gw321 : Cond.methodLink RL 178 yX6_isSound ∈ GW := gw_of (i := 321) (by decide +kernel) rfl
theorem gw322 : Cond.instanceMethod yX6_isSound ∈ GW := gw_of (i := 322) (by decide +kernel) rfl
theorem gw323 : Cond.selects RX6 yX6_isSound yX6_isSound ∈ GW := gw_of (i := 323) (by decide +kernel) rfl
theorem gw324 : Cond.code yX6_isSound cX6_isSound 2 (some .boolean) ∈ GW := gw_of (i := 324) (by decide +kernel) rfl
theorem gw325 : Cond.methodLink RX6 110 yX1_find ∈ GW := gw_of (i := 325) (by decide +kernel) rfl
theorem gw326 : Cond.instanceMethod yX1_find ∈ GW := gw_of (i := 326) (by decide +kernel) rfl
theorem gw327 : Cond.selects RX1 yX1_find yX1_find ∈ GW := gw_of (i := 327) (by decide +kernel) rfl
theorem gw328 : Cond.code yX1_find cX1_find 2 none ∈ GW := gw_of (i := 328) (by decide +kernel) rfl
theorem gw329 : Cond.methodLink RX1 63 yX1_findPulls ∈ GW := gw_of (i := 329) (by decide +kernel) rfl
theorem gw331 : Cond.instanceMethod yX1_findPulls ∈ GW := gw_of (i := 331) (by decide +kernel) rfl
theorem gw332 : Cond.code yX1_findPulls cX1_findPulls 7 (some .char) ∈ GW := gw_of (i := 332) (by decide +kernel) rfl
theorem gw333 : Cond.methodLink RX1 84 yX2_isBorne ∈ GW := gw_of (i := 333) (by decide +kernel) rfl
theorem gw334 : Cond.instanceMethod yX2_isBorne ∈ GW := gw_of (i := 334) (by decide +kernel) rfl
theorem gw335 : Cond.selects RX2 yX2_isBorne yX2_isBorne ∈ GW := gw_of (i := 335) (by decide +kernel) rfl
theorem gw336 : Cond.code yX2_isBorne cX2_isBorne 3 (some .boolean) ∈ GW := gw_of (i := 336) (by decide +kernel) rfl
theorem gw337 : Cond.methodLink RX1 91 yX1_fillRows ∈ GW := gw_of (i := 337) (by decide +kernel) rfl
theorem gw339 : Cond.instanceMethod yX1_fillRows ∈ GW := gw_of (i := 339) (by decide +kernel) rfl
theorem gw340 : Cond.code yX1_fillRows cX1_fillRows 7 none ∈ GW := gw_of (i := 340) (by decide +kernel) rfl
theorem gw341 : Cond.methodLink RX1 112 yX2_wayAlong ∈ GW := gw_of (i := 341) (by decide +kernel) rfl
theorem gw342 : Cond.instanceMethod yX2_wayAlong ∈ GW := gw_of (i := 342) (by decide +kernel) rfl
theorem gw343 : Cond.selects RX2 yX2_wayAlong yX2_wayAlong ∈ GW := gw_of (i := 343) (by decide +kernel) rfl
theorem gw344 : Cond.code yX2_wayAlong cX2_wayAlong 5 (some .int) ∈ GW := gw_of (i := 344) (by decide +kernel) rfl
theorem gw345 : Cond.methodLink RX2 50 yX2_otherEnd ∈ GW := gw_of (i := 345) (by decide +kernel) rfl
theorem gw346 : Cond.instanceMethod yX2_otherEnd ∈ GW := gw_of (i := 346) (by decide +kernel) rfl
theorem gw347 : Cond.selects RX2 yX2_otherEnd yX2_otherEnd ∈ GW := gw_of (i := 347) (by decide +kernel) rfl
theorem gw348 : Cond.code yX2_otherEnd cX2_otherEnd 3 (some .int) ∈ GW := gw_of (i := 348) (by decide +kernel) rfl
theorem gw349 : Cond.methodLink RX1 94 yX1_findDeterminants ∈ GW := gw_of (i := 349) (by decide +kernel) rfl
theorem gw351 : Cond.instanceMethod yX1_findDeterminants ∈ GW := gw_of (i := 351) (by decide +kernel) rfl
theorem gw352 : Cond.code yX1_findDeterminants cX1_findDeterminants 4 none ∈ GW := gw_of (i := 352) (by decide +kernel) rfl
theorem gw353 : Cond.methodLink RX1 119 yJ6_bitCount_0f7a4 ∈ GW := gw_of (i := 353) (by decide +kernel) rfl
theorem gw354 : Cond.static yJ6_bitCount_0f7a4 ∈ GW := gw_of (i := 354) (by decide +kernel) rfl
theorem gw355 : Cond.code yJ6_bitCount_0f7a4 cJ6_bitCount_0f7a4 1 (some .int) ∈ GW := gw_of (i := 355) (by decide +kernel) rfl
theorem gw356 : Cond.constant RJ6 265 (1431655765) ∈ GW := gw_of (i := 356) (by decide +kernel) rfl
theorem gw357 : Cond.constant RJ6 266 (858993459) ∈ GW := gw_of (i := 357) (by decide +kernel) rfl
theorem gw358 : Cond.constant RJ6 267 (252645135) ∈ GW := gw_of (i := 358) (by decide +kernel) rfl
theorem gw359 : Cond.methodLink RX1 125 yX1_expanded ∈ GW := gw_of (i := 359) (by decide +kernel) rfl
theorem gw361 : Cond.instanceMethod yX1_expanded ∈ GW := gw_of (i := 361) (by decide +kernel) rfl
theorem gw362 : Cond.code yX1_expanded cX1_expanded 9 (some .long) ∈ GW := gw_of (i := 362) (by decide +kernel) rfl
theorem gw363 : Cond.methodLink RX1 98 Lib.MathLoose.abs_long.x ∈ GW := gw_of (i := 363) (by decide +kernel) rfl
theorem gw364 : Cond.static Lib.MathLoose.abs_long.x ∈ GW := gw_of (i := 364) (by decide +kernel) rfl
theorem gw365 : Cond.code Lib.MathLoose.abs_long.x Lib.MathLoose.abs_long.code 2 (some .long) ∈ GW := gw_of (i := 365) (by decide +kernel) rfl
theorem gw366 : Cond.methodLink RX1 108 yX1_setPull ∈ GW := gw_of (i := 366) (by decide +kernel) rfl
theorem gw368 : Cond.instanceMethod yX1_setPull ∈ GW := gw_of (i := 368) (by decide +kernel) rfl
theorem gw369 : Cond.code yX1_setPull cX1_setPull 8 none ∈ GW := gw_of (i := 369) (by decide +kernel) rfl
theorem gw370 : Cond.constantLong RX1 129 (256) ∈ GW := gw_of (i := 370) (by decide +kernel) rfl
theorem gw371 : Cond.methodLink RX1 131 yJ9_floorDiv_f86c9 ∈ GW := gw_of (i := 371) (by decide +kernel) rfl
theorem gw372 : Cond.static yJ9_floorDiv_f86c9 ∈ GW := gw_of (i := 372) (by decide +kernel) rfl
theorem gw373 : Cond.code yJ9_floorDiv_f86c9 cJ9_floorDiv_f86c9 6 (some .long) ∈ GW := gw_of (i := 373) (by decide +kernel) rfl
theorem gw374 : Cond.methodLink RX1 135 yJ9_floorMod_f86c9 ∈ GW := gw_of (i := 374) (by decide +kernel) rfl
theorem gw375 : Cond.static yJ9_floorMod_f86c9 ∈ GW := gw_of (i := 375) (by decide +kernel) rfl
theorem gw376 : Cond.code yJ9_floorMod_f86c9 cJ9_floorMod_f86c9 6 (some .long) ∈ GW := gw_of (i := 376) (by decide +kernel) rfl
theorem gw377 : Cond.methodLink RX1 138 yX1_carry ∈ GW := gw_of (i := 377) (by decide +kernel) rfl
theorem gw379 : Cond.instanceMethod yX1_carry ∈ GW := gw_of (i := 379) (by decide +kernel) rfl
theorem gw380 : Cond.code yX1_carry cX1_carry 2 none ∈ GW := gw_of (i := 380) (by decide +kernel) rfl
theorem gw381 : Cond.methodLink RX1 71 yX1_findBearings ∈ GW := gw_of (i := 381) (by decide +kernel) rfl
theorem gw383 : Cond.instanceMethod yX1_findBearings ∈ GW := gw_of (i := 383) (by decide +kernel) rfl
theorem gw384 : Cond.code yX1_findBearings cX1_findBearings 6 none ∈ GW := gw_of (i := 384) (by decide +kernel) rfl
theorem gw385 : Cond.methodLink RX1 75 yX1_findAmounts ∈ GW := gw_of (i := 385) (by decide +kernel) rfl
theorem gw387 : Cond.instanceMethod yX1_findAmounts ∈ GW := gw_of (i := 387) (by decide +kernel) rfl
theorem gw388 : Cond.code yX1_findAmounts cX1_findAmounts 8 none ∈ GW := gw_of (i := 388) (by decide +kernel) rfl
theorem gw389 : Cond.methodLink RX1 141 yX5_set ∈ GW := gw_of (i := 389) (by decide +kernel) rfl
theorem gw390 : Cond.instanceMethod yX5_set ∈ GW := gw_of (i := 390) (by decide +kernel) rfl
theorem gw391 : Cond.selects RX5 yX5_set yX5_set ∈ GW := gw_of (i := 391) (by decide +kernel) rfl
theorem gw392 : Cond.code yX5_set cX5_set 4 none ∈ GW := gw_of (i := 392) (by decide +kernel) rfl
theorem gw393 : Cond.constantLong RX5 13 (4294967295) ∈ GW := gw_of (i := 393) (by decide +kernel) rfl
theorem gw394 : Cond.methodLink RX1 145 yX2_lengthSquare ∈ GW := gw_of (i := 394) (by decide +kernel) rfl
theorem gw395 : Cond.instanceMethod yX2_lengthSquare ∈ GW := gw_of (i := 395) (by decide +kernel) rfl
theorem gw396 : Cond.selects RX2 yX2_lengthSquare yX2_lengthSquare ∈ GW := gw_of (i := 396) (by decide +kernel) rfl
theorem gw397 : Cond.code yX2_lengthSquare cX2_lengthSquare 6 (some .int) ∈ GW := gw_of (i := 397) (by decide +kernel) rfl
theorem gw398 : Cond.constantLong RX1 148 (-1) ∈ GW := gw_of (i := 398) (by decide +kernel) rfl
theorem gw399 : Cond.methodLink RX1 150 yX1_timesLength ∈ GW := gw_of (i := 399) (by decide +kernel) rfl
theorem gw401 : Cond.instanceMethod yX1_timesLength ∈ GW := gw_of (i := 401) (by decide +kernel) rfl
theorem gw402 : Cond.code yX1_timesLength cX1_timesLength 13 (some .long) ∈ GW := gw_of (i := 402) (by decide +kernel) rfl
theorem gw403 : Cond.methodLink RX1 154 yX5_setProduct ∈ GW := gw_of (i := 403) (by decide +kernel) rfl
theorem gw404 : Cond.instanceMethod yX5_setProduct ∈ GW := gw_of (i := 404) (by decide +kernel) rfl
theorem gw405 : Cond.selects RX5 yX5_setProduct yX5_setProduct ∈ GW := gw_of (i := 405) (by decide +kernel) rfl
theorem gw406 : Cond.code yX5_setProduct cX5_setProduct 7 none ∈ GW := gw_of (i := 406) (by decide +kernel) rfl
theorem gw407 : Cond.methodLink RX1 158 yX5_add ∈ GW := gw_of (i := 407) (by decide +kernel) rfl
theorem gw408 : Cond.instanceMethod yX5_add ∈ GW := gw_of (i := 408) (by decide +kernel) rfl
theorem gw409 : Cond.selects RX5 yX5_add yX5_add ∈ GW := gw_of (i := 409) (by decide +kernel) rfl
theorem gw410 : Cond.code yX5_add cX5_add 8 none ∈ GW := gw_of (i := 410) (by decide +kernel) rfl
theorem gw411 : Cond.constantLong RX1 161 (214497024112901762) ∈ GW := gw_of (i := 411) (by decide +kernel) rfl
theorem gw412 : Cond.constantLong RX1 163 (43) ∈ GW := gw_of (i := 412) (by decide +kernel) rfl
theorem gw413 : Cond.constantLong RX1 165 (9223372036854775807) ∈ GW := gw_of (i := 413) (by decide +kernel) rfl
theorem gw414 : Cond.constantLong RX1 167 (2) ∈ GW := gw_of (i := 414) (by decide +kernel) rfl
theorem gw415 : Cond.methodLink RX1 169 yX5_isAtMost ∈ GW := gw_of (i := 415) (by decide +kernel) rfl
theorem gw416 : Cond.instanceMethod yX5_isAtMost ∈ GW := gw_of (i := 416) (by decide +kernel) rfl
theorem gw417 : Cond.selects RX5 yX5_isAtMost yX5_isAtMost ∈ GW := gw_of (i := 417) (by decide +kernel) rfl
theorem gw418 : Cond.code yX5_isAtMost cX5_isAtMost 3 (some .boolean) ∈ GW := gw_of (i := 418) (by decide +kernel) rfl
theorem gw419 : Cond.methodLink RX6 138 yX1_holdsAt ∈ GW := gw_of (i := 419) (by decide +kernel) rfl
theorem gw420 : Cond.instanceMethod yX1_holdsAt ∈ GW := gw_of (i := 420) (by decide +kernel) rfl
theorem gw421 : Cond.selects RX1 yX1_holdsAt yX1_holdsAt ∈ GW := gw_of (i := 421) (by decide +kernel) rfl
theorem gw422 : Cond.code yX1_holdsAt cX1_holdsAt 3 (some .boolean) ∈ GW := gw_of (i := 422) (by decide +kernel) rfl
theorem gw423 : Cond.methodLink RX1 185 yX1_holdsAlong ∈ GW := gw_of (i := 423) (by decide +kernel) rfl
theorem gw425 : Cond.instanceMethod yX1_holdsAlong ∈ GW := gw_of (i := 425) (by decide +kernel) rfl
theorem gw426 : Cond.code yX1_holdsAlong cX1_holdsAlong 12 (some .boolean) ∈ GW := gw_of (i := 426) (by decide +kernel) rfl
theorem gw427 : Cond.methodLink RX1 192 yX1_bearingIndex ∈ GW := gw_of (i := 427) (by decide +kernel) rfl
theorem gw428 : Cond.instanceMethod yX1_bearingIndex ∈ GW := gw_of (i := 428) (by decide +kernel) rfl
theorem gw429 : Cond.selects RX1 yX1_bearingIndex yX1_bearingIndex ∈ GW := gw_of (i := 429) (by decide +kernel) rfl
theorem gw430 : Cond.code yX1_bearingIndex cX1_bearingIndex 3 (some .int) ∈ GW := gw_of (i := 430) (by decide +kernel) rfl
theorem gw431 : Cond.methodLink RX1 196 yX2_otherEnd ∈ GW := gw_of (i := 431) (by decide +kernel) rfl
theorem gw432 : Cond.methodLink RX6 273 yX6_canRaise ∈ GW := gw_of (i := 432) (by decide +kernel) rfl
theorem gw433 : Cond.instanceMethod yX6_canRaise ∈ GW := gw_of (i := 433) (by decide +kernel) rfl
theorem gw434 : Cond.selects RX6 yX6_canRaise yX6_canRaise ∈ GW := gw_of (i := 434) (by decide +kernel) rfl
theorem gw435 : Cond.code yX6_canRaise cX6_canRaise 1 (some .boolean) ∈ GW := gw_of (i := 435) (by decide +kernel) rfl
theorem gw436 : Cond.methodLink RX6 247 yX4_find ∈ GW := gw_of (i := 436) (by decide +kernel) rfl
theorem gw437 : Cond.instanceMethod yX4_find ∈ GW := gw_of (i := 437) (by decide +kernel) rfl
theorem gw438 : Cond.selects RX4 yX4_find yX4_find ∈ GW := gw_of (i := 438) (by decide +kernel) rfl
theorem gw439 : Cond.code yX4_find cX4_find 3 none ∈ GW := gw_of (i := 439) (by decide +kernel) rfl
theorem gw440 : Cond.methodLink RX4 46 yX4_gather ∈ GW := gw_of (i := 440) (by decide +kernel) rfl
theorem gw442 : Cond.instanceMethod yX4_gather ∈ GW := gw_of (i := 442) (by decide +kernel) rfl
theorem gw443 : Cond.code yX4_gather cX4_gather 6 none ∈ GW := gw_of (i := 443) (by decide +kernel) rfl
theorem gw444 : Cond.methodLink RX4 63 yX2_isOnGround ∈ GW := gw_of (i := 444) (by decide +kernel) rfl
theorem gw445 : Cond.instanceMethod yX2_isOnGround ∈ GW := gw_of (i := 445) (by decide +kernel) rfl
theorem gw446 : Cond.selects RX2 yX2_isOnGround yX2_isOnGround ∈ GW := gw_of (i := 446) (by decide +kernel) rfl
theorem gw447 : Cond.code yX2_isOnGround cX2_isOnGround 2 (some .boolean) ∈ GW := gw_of (i := 447) (by decide +kernel) rfl
theorem gw448 : Cond.methodLink RX4 70 yX3_partner ∈ GW := gw_of (i := 448) (by decide +kernel) rfl
theorem gw449 : Cond.instanceMethod yX3_partner ∈ GW := gw_of (i := 449) (by decide +kernel) rfl
theorem gw450 : Cond.selects RX3 yX3_partner yX3_partner ∈ GW := gw_of (i := 450) (by decide +kernel) rfl
theorem gw451 : Cond.code yX3_partner cX3_partner 3 (some .int) ∈ GW := gw_of (i := 451) (by decide +kernel) rfl
theorem gw452 : Cond.methodLink RX4 74 yX3_wayFor ∈ GW := gw_of (i := 452) (by decide +kernel) rfl
theorem gw453 : Cond.instanceMethod yX3_wayFor ∈ GW := gw_of (i := 453) (by decide +kernel) rfl
theorem gw454 : Cond.selects RX3 yX3_wayFor yX3_wayFor ∈ GW := gw_of (i := 454) (by decide +kernel) rfl
theorem gw455 : Cond.code yX3_wayFor cX3_wayFor 4 (some .int) ∈ GW := gw_of (i := 455) (by decide +kernel) rfl
theorem gw456 : Cond.methodLink RX4 50 yX4_goForward ∈ GW := gw_of (i := 456) (by decide +kernel) rfl
theorem gw458 : Cond.instanceMethod yX4_goForward ∈ GW := gw_of (i := 458) (by decide +kernel) rfl
theorem gw459 : Cond.code yX4_goForward cX4_goForward 6 none ∈ GW := gw_of (i := 459) (by decide +kernel) rfl
theorem gw460 : Cond.methodLink RX4 83 yX4_propsFor ∈ GW := gw_of (i := 460) (by decide +kernel) rfl
theorem gw461 : Cond.instanceMethod yX4_propsFor ∈ GW := gw_of (i := 461) (by decide +kernel) rfl
theorem gw462 : Cond.selects RX4 yX4_propsFor yX4_propsFor ∈ GW := gw_of (i := 462) (by decide +kernel) rfl
theorem gw463 : Cond.code yX4_propsFor cX4_propsFor 5 (some .int) ∈ GW := gw_of (i := 463) (by decide +kernel) rfl
theorem gw464 : Cond.methodLink RX4 77 yJ6_bitCount_0f7a4 ∈ GW := gw_of (i := 464) (by decide +kernel) rfl
theorem gw465 : Cond.methodLink RX4 86 yX4_canMoveIn ∈ GW := gw_of (i := 465) (by decide +kernel) rfl
theorem gw467 : Cond.instanceMethod yX4_canMoveIn ∈ GW := gw_of (i := 467) (by decide +kernel) rfl
theorem gw468 : Cond.code yX4_canMoveIn cX4_canMoveIn 5 (some .boolean) ∈ GW := gw_of (i := 468) (by decide +kernel) rfl
theorem gw469 : Cond.methodLink RX4 54 yX4_goBackward ∈ GW := gw_of (i := 469) (by decide +kernel) rfl
theorem gw471 : Cond.instanceMethod yX4_goBackward ∈ GW := gw_of (i := 471) (by decide +kernel) rfl
theorem gw472 : Cond.code yX4_goBackward cX4_goBackward 6 none ∈ GW := gw_of (i := 472) (by decide +kernel) rfl
theorem gw473 : Cond.methodLink RX4 57 yX4_findOrder ∈ GW := gw_of (i := 473) (by decide +kernel) rfl
theorem gw475 : Cond.instanceMethod yX4_findOrder ∈ GW := gw_of (i := 475) (by decide +kernel) rfl
theorem gw476 : Cond.code yX4_findOrder cX4_findOrder 5 none ∈ GW := gw_of (i := 476) (by decide +kernel) rfl
theorem gw477 : Cond.methodLink RX4 90 yX4_firstThatLeads ∈ GW := gw_of (i := 477) (by decide +kernel) rfl
theorem gw479 : Cond.instanceMethod yX4_firstThatLeads ∈ GW := gw_of (i := 479) (by decide +kernel) rfl
theorem gw480 : Cond.code yX4_firstThatLeads cX4_firstThatLeads 6 (some .int) ∈ GW := gw_of (i := 480) (by decide +kernel) rfl
theorem gw481 : Cond.methodLink RX6 250 yX4_orderCount ∈ GW := gw_of (i := 481) (by decide +kernel) rfl
theorem gw482 : Cond.instanceMethod yX4_orderCount ∈ GW := gw_of (i := 482) (by decide +kernel) rfl
theorem gw483 : Cond.selects RX4 yX4_orderCount yX4_orderCount ∈ GW := gw_of (i := 483) (by decide +kernel) rfl
theorem gw484 : Cond.code yX4_orderCount cX4_orderCount 1 (some .int) ∈ GW := gw_of (i := 484) (by decide +kernel) rfl
theorem gw485 : Cond.methodLink RX6 277 yX6_canTakeAway ∈ GW := gw_of (i := 485) (by decide +kernel) rfl
theorem gw486 : Cond.instanceMethod yX6_canTakeAway ∈ GW := gw_of (i := 486) (by decide +kernel) rfl
theorem gw487 : Cond.selects RX6 yX6_canTakeAway yX6_canTakeAway ∈ GW := gw_of (i := 487) (by decide +kernel) rfl
theorem gw488 : Cond.code yX6_canTakeAway cX6_canTakeAway 1 (some .boolean) ∈ GW := gw_of (i := 488) (by decide +kernel) rfl
theorem gw489 : Cond.methodLink RL 128 yL_pick ∈ GW := gw_of (i := 489) (by decide +kernel) rfl
theorem gw490 : Cond.static yL_pick ∈ GW := gw_of (i := 490) (by decide +kernel) rfl
theorem gw491 : Cond.code yL_pick cL_pick 3 (some .int) ∈ GW := gw_of (i := 491) (by decide +kernel) rfl
theorem gw492 : Cond.methodLink RL 8 yL_cell ∈ GW := gw_of (i := 492) (by decide +kernel) rfl
theorem gw493 : Cond.static yL_cell ∈ GW := gw_of (i := 493) (by decide +kernel) rfl
theorem gw494 : Cond.code yL_cell cL_cell 2 (some .int) ∈ GW := gw_of (i := 494) (by decide +kernel) rfl
theorem gw495 : Cond.constant RL 7 (40503) ∈ GW := gw_of (i := 495) (by decide +kernel) rfl
theorem gw496 : Cond.methodLink RL 140 yL_node ∈ GW := gw_of (i := 496) (by decide +kernel) rfl
theorem gw497 : Cond.static yL_node ∈ GW := gw_of (i := 497) (by decide +kernel) rfl
theorem gw498 : Cond.codeWith yL_node cL_node 5 (some .int) [(0, 7, 8, 20), (0, 7, 13, 22)] ∈ GW := gw_of (i := 498) (by decide +kernel) rfl
theorem gw499 : Cond.classLink RL 20 "java/lang/IllegalArgumentException" ∈ GW := gw_of (i := 499) (by decide +kernel) rfl
theorem gw500 : Cond.classLink RL 22 "java/lang/IllegalStateException" ∈ GW := gw_of (i := 500) (by decide +kernel) rfl
theorem gw501 : Cond.methodLink RL 14 yX6_node ∈ GW := gw_of (i := 501) (by decide +kernel) rfl
theorem gw502 : Cond.instanceMethod yX6_node ∈ GW := gw_of (i := 502) (by decide +kernel) rfl
theorem gw503 : Cond.selects RX6 yX6_node yX6_node ∈ GW := gw_of (i := 503) (by decide +kernel) rfl
theorem gw504 : Cond.code yX6_node cX6_node 4 (some .int) ∈ GW := gw_of (i := 504) (by decide +kernel) rfl
theorem gw505 : Cond.methodLink RX6 44 yX6_isWithin ∈ GW := gw_of (i := 505) (by decide +kernel) rfl
theorem gw506 : Cond.static yX6_isWithin ∈ GW := gw_of (i := 506) (by decide +kernel) rfl
theorem gw507 : Cond.code yX6_isWithin cX6_isWithin 3 (some .boolean) ∈ GW := gw_of (i := 507) (by decide +kernel) rfl
theorem gw509 : Cond.methodLink RX6 50 yJ0_indexOf_0f7a4 ∈ GW := gw_of (i := 509) (by decide +kernel) rfl
theorem gw510 : Cond.instanceMethod yJ0_indexOf_0f7a4 ∈ GW := gw_of (i := 510) (by decide +kernel) rfl
theorem gw511 : Cond.selects RJ0 yJ0_indexOf_0f7a4 yJ0_indexOf_0f7a4 ∈ GW := gw_of (i := 511) (by decide +kernel) rfl
theorem gw512 : Cond.code yJ0_indexOf_0f7a4 cJ0_indexOf_0f7a4 2 (some .int) ∈ GW := gw_of (i := 512) (by decide +kernel) rfl
theorem gw513 : Cond.methodLink RJ0 633 yJ0_indexOf_7cf53 ∈ GW := gw_of (i := 513) (by decide +kernel) rfl
theorem gw514 : Cond.instanceMethod yJ0_indexOf_7cf53 ∈ GW := gw_of (i := 514) (by decide +kernel) rfl
theorem gw515 : Cond.selects RJ0 yJ0_indexOf_7cf53 yJ0_indexOf_7cf53 ∈ GW := gw_of (i := 515) (by decide +kernel) rfl
theorem gw516 : Cond.code yJ0_indexOf_7cf53 cJ0_indexOf_7cf53 3 (some .int) ∈ GW := gw_of (i := 516) (by decide +kernel) rfl
theorem gw517 : Cond.methodLink RJ0 492 yJ0_isLatin1_aae02 ∈ GW := gw_of (i := 517) (by decide +kernel) rfl
theorem gw518 : Cond.instanceMethod yJ0_isLatin1_aae02 ∈ GW := gw_of (i := 518) (by decide +kernel) rfl
theorem gw519 : Cond.selects RJ0 yJ0_isLatin1_aae02 yJ0_isLatin1_aae02 ∈ GW := gw_of (i := 519) (by decide +kernel) rfl
theorem gw520 : Cond.code yJ0_isLatin1_aae02 cJ0_isLatin1_aae02 1 (some .boolean) ∈ GW := gw_of (i := 520) (by decide +kernel) rfl
theorem gw521 : Cond.fieldLink RJ0 38 "java/lang/String" "COMPACT_STRINGS" "Z" ∈ GW := gw_of (i := 521) (by decide +kernel) rfl
theorem gw523 : Cond.methodLink RJ0 505 yJ0_length_8abf5 ∈ GW := gw_of (i := 523) (by decide +kernel) rfl
theorem gw524 : Cond.instanceMethod yJ0_length_8abf5 ∈ GW := gw_of (i := 524) (by decide +kernel) rfl
theorem gw525 : Cond.selects RJ0 yJ0_length_8abf5 yJ0_length_8abf5 ∈ GW := gw_of (i := 525) (by decide +kernel) rfl
theorem gw526 : Cond.code yJ0_length_8abf5 cJ0_length_8abf5 1 (some .int) ∈ GW := gw_of (i := 526) (by decide +kernel) rfl
theorem gw527 : Cond.methodLink RJ0 335 yJ0_coder_7d493 ∈ GW := gw_of (i := 527) (by decide +kernel) rfl
theorem gw528 : Cond.instanceMethod yJ0_coder_7d493 ∈ GW := gw_of (i := 528) (by decide +kernel) rfl
theorem gw529 : Cond.selects RJ0 yJ0_coder_7d493 yJ0_coder_7d493 ∈ GW := gw_of (i := 529) (by decide +kernel) rfl
theorem gw530 : Cond.code yJ0_coder_7d493 cJ0_coder_7d493 1 (some .byte) ∈ GW := gw_of (i := 530) (by decide +kernel) rfl
theorem gw531 : Cond.methodLink RJ0 637 yJ1_indexOf_4cfef ∈ GW := gw_of (i := 531) (by decide +kernel) rfl
theorem gw532 : Cond.static yJ1_indexOf_4cfef ∈ GW := gw_of (i := 532) (by decide +kernel) rfl
theorem gw533 : Cond.code yJ1_indexOf_4cfef cJ1_indexOf_4cfef 4 (some .int) ∈ GW := gw_of (i := 533) (by decide +kernel) rfl
theorem gw534 : Cond.methodLink RJ1 88 yJ1_canEncode_9a6ad ∈ GW := gw_of (i := 534) (by decide +kernel) rfl
theorem gw535 : Cond.static yJ1_canEncode_9a6ad ∈ GW := gw_of (i := 535) (by decide +kernel) rfl
theorem gw536 : Cond.code yJ1_canEncode_9a6ad cJ1_canEncode_9a6ad 1 (some .boolean) ∈ GW := gw_of (i := 536) (by decide +kernel) rfl
theorem gw537 : Cond.methodLink RJ1 92 Lib.Math.max.name ∈ GW := gw_of (i := 537) (by decide +kernel) rfl
theorem gw538 : Cond.static Lib.Math.max.name ∈ GW := gw_of (i := 538) (by decide +kernel) rfl
theorem gw539 : Cond.code Lib.Math.max.name Lib.Math.max.code 2 (some .int) ∈ GW := gw_of (i := 539) (by decide +kernel) rfl
theorem gw540 : Cond.methodLink RJ1 38 Lib.Math.min.name ∈ GW := gw_of (i := 540) (by decide +kernel) rfl
theorem gw541 : Cond.static Lib.Math.min.name ∈ GW := gw_of (i := 541) (by decide +kernel) rfl
theorem gw542 : Cond.code Lib.Math.min.name Lib.Math.min.code 2 (some .int) ∈ GW := gw_of (i := 542) (by decide +kernel) rfl
theorem gw543 : Cond.methodLink RJ1 95 yJ1_indexOfChar_4cfef ∈ GW := gw_of (i := 543) (by decide +kernel) rfl
theorem gw544 : Cond.static yJ1_indexOfChar_4cfef ∈ GW := gw_of (i := 544) (by decide +kernel) rfl
theorem gw545 : Cond.code yJ1_indexOfChar_4cfef cJ1_indexOfChar_4cfef 6 (some .int) ∈ GW := gw_of (i := 545) (by decide +kernel) rfl
theorem gw546 : Cond.methodLink RJ0 640 yJ2_indexOf_4cfef ∈ GW := gw_of (i := 546) (by decide +kernel) rfl
theorem gw547 : Cond.static yJ2_indexOf_4cfef ∈ GW := gw_of (i := 547) (by decide +kernel) rfl
theorem gw548 : Cond.code yJ2_indexOf_4cfef cJ2_indexOf_4cfef 4 (some .int) ∈ GW := gw_of (i := 548) (by decide +kernel) rfl
theorem gw549 : Cond.methodLink RJ2 224 Lib.Math.max.name ∈ GW := gw_of (i := 549) (by decide +kernel) rfl
theorem gw550 : Cond.methodLink RJ2 183 Lib.Math.min.name ∈ GW := gw_of (i := 550) (by decide +kernel) rfl
theorem gw551 : Cond.constant RJ2 227 (65536) ∈ GW := gw_of (i := 551) (by decide +kernel) rfl
theorem gw552 : Cond.methodLink RJ2 228 yJ2_indexOfChar_4cfef ∈ GW := gw_of (i := 552) (by decide +kernel) rfl
theorem gw553 : Cond.static yJ2_indexOfChar_4cfef ∈ GW := gw_of (i := 553) (by decide +kernel) rfl
theorem gw554 : Cond.code yJ2_indexOfChar_4cfef cJ2_indexOfChar_4cfef 4 (some .int) ∈ GW := gw_of (i := 554) (by decide +kernel) rfl
theorem gw555 : Cond.methodLink RJ2 96 yJ2_checkBoundsBeginEnd_d044e ∈ GW := gw_of (i := 555) (by decide +kernel) rfl
theorem gw556 : Cond.static yJ2_checkBoundsBeginEnd_d044e ∈ GW := gw_of (i := 556) (by decide +kernel) rfl
theorem gw557 : Cond.code yJ2_checkBoundsBeginEnd_d044e cJ2_checkBoundsBeginEnd_d044e 3 none ∈ GW := gw_of (i := 557) (by decide +kernel) rfl
theorem gw558 : Cond.methodLink RJ2 48 yJ2_length_9d52b ∈ GW := gw_of (i := 558) (by decide +kernel) rfl
theorem gw559 : Cond.static yJ2_length_9d52b ∈ GW := gw_of (i := 559) (by decide +kernel) rfl
theorem gw560 : Cond.code yJ2_length_9d52b cJ2_length_9d52b 1 (some .int) ∈ GW := gw_of (i := 560) (by decide +kernel) rfl
theorem gw561 : Cond.methodLink RJ2 241 yJ0_checkBoundsBeginEnd_23922 ∈ GW := gw_of (i := 561) (by decide +kernel) rfl
theorem gw562 : Cond.static yJ0_checkBoundsBeginEnd_23922 ∈ GW := gw_of (i := 562) (by decide +kernel) rfl
theorem gw563 : Cond.code yJ0_checkBoundsBeginEnd_23922 cJ0_checkBoundsBeginEnd_23922 3 none ∈ GW := gw_of (i := 563) (by decide +kernel) rfl
theorem gw564 : Cond.fieldLink RJ0 1053 "jdk/internal/util/Preconditions" "SIOOBE_FORMATTER" "Ljava/util/function/BiFunction;" ∈ GW := gw_of (i := 564) (by decide +kernel) rfl
theorem gw566 : Cond.methodLink RJ0 1062 yJ3_checkFromToIndex_8c36e ∈ GW := gw_of (i := 566) (by decide +kernel) rfl
theorem gw567 : Cond.static yJ3_checkFromToIndex_8c36e ∈ GW := gw_of (i := 567) (by decide +kernel) rfl
theorem gw568 : Cond.code yJ3_checkFromToIndex_8c36e cJ3_checkFromToIndex_8c36e 4 (some .int) ∈ GW := gw_of (i := 568) (by decide +kernel) rfl
theorem gw569 : Cond.methodLink RJ2 244 yJ2_indexOfCharUnsafe_4cfef ∈ GW := gw_of (i := 569) (by decide +kernel) rfl
theorem gw570 : Cond.static yJ2_indexOfCharUnsafe_4cfef ∈ GW := gw_of (i := 570) (by decide +kernel) rfl
theorem gw571 : Cond.code yJ2_indexOfCharUnsafe_4cfef cJ2_indexOfCharUnsafe_4cfef 5 (some .int) ∈ GW := gw_of (i := 571) (by decide +kernel) rfl
theorem gw572 : Cond.methodLink RJ2 71 yJ2_getChar_3b067 ∈ GW := gw_of (i := 572) (by decide +kernel) rfl
theorem gw573 : Cond.static yJ2_getChar_3b067 ∈ GW := gw_of (i := 573) (by decide +kernel) rfl
theorem gw574 : Cond.code yJ2_getChar_3b067 cJ2_getChar_3b067 2 (some .char) ∈ GW := gw_of (i := 574) (by decide +kernel) rfl
theorem gw575 : Cond.fieldLink RJ2 44 "java/lang/StringUTF16" "$assertionsDisabled" "Z" ∈ GW := gw_of (i := 575) (by decide +kernel) rfl
theorem gw577 : Cond.fieldLink RJ2 59 "java/lang/StringUTF16" "HI_BYTE_SHIFT" "I" ∈ GW := gw_of (i := 577) (by decide +kernel) rfl
theorem gw579 : Cond.fieldLink RJ2 63 "java/lang/StringUTF16" "LO_BYTE_SHIFT" "I" ∈ GW := gw_of (i := 579) (by decide +kernel) rfl
theorem gw581 : Cond.methodLink RJ2 232 yJ2_indexOfSupplementary_4cfef ∈ GW := gw_of (i := 581) (by decide +kernel) rfl
theorem gw582 : Cond.static yJ2_indexOfSupplementary_4cfef ∈ GW := gw_of (i := 582) (by decide +kernel) rfl
theorem gw583 : Cond.code yJ2_indexOfSupplementary_4cfef cJ2_indexOfSupplementary_4cfef 7 (some .int) ∈ GW := gw_of (i := 583) (by decide +kernel) rfl
theorem gw584 : Cond.methodLink RJ2 164 yJ11_isValidCodePoint_9a6ad ∈ GW := gw_of (i := 584) (by decide +kernel) rfl
theorem gw585 : Cond.static yJ11_isValidCodePoint_9a6ad ∈ GW := gw_of (i := 585) (by decide +kernel) rfl
theorem gw586 : Cond.code yJ11_isValidCodePoint_9a6ad cJ11_isValidCodePoint_9a6ad 2 (some .boolean) ∈ GW := gw_of (i := 586) (by decide +kernel) rfl
theorem gw587 : Cond.methodLink RJ2 157 yJ11_highSurrogate_5068e ∈ GW := gw_of (i := 587) (by decide +kernel) rfl
theorem gw588 : Cond.static yJ11_highSurrogate_5068e ∈ GW := gw_of (i := 588) (by decide +kernel) rfl
theorem gw589 : Cond.code yJ11_highSurrogate_5068e cJ11_highSurrogate_5068e 1 (some .char) ∈ GW := gw_of (i := 589) (by decide +kernel) rfl
theorem gw590 : Cond.constant RJ11 110 (55232) ∈ GW := gw_of (i := 590) (by decide +kernel) rfl
theorem gw591 : Cond.methodLink RJ2 161 yJ11_lowSurrogate_5068e ∈ GW := gw_of (i := 591) (by decide +kernel) rfl
theorem gw592 : Cond.static yJ11_lowSurrogate_5068e ∈ GW := gw_of (i := 592) (by decide +kernel) rfl
theorem gw593 : Cond.code yJ11_lowSurrogate_5068e cJ11_lowSurrogate_5068e 1 (some .char) ∈ GW := gw_of (i := 593) (by decide +kernel) rfl
theorem gw594 : Cond.constant RJ11 76 (56320) ∈ GW := gw_of (i := 594) (by decide +kernel) rfl
theorem gw595 : Cond.classLink RX6 56 "java/lang/IllegalArgumentException" ∈ GW := gw_of (i := 595) (by decide +kernel) rfl
theorem gw596 : Cond.instantiable "java/lang/IllegalArgumentException" 6 ∈ GW := gw_of (i := 596) (by decide +kernel) rfl
theorem gw597 : Cond.castable "java/lang/IllegalArgumentException" "java/lang/IllegalArgumentException" ∈ NW := nw_of (i := 597) (by decide +kernel) rfl
theorem gw616 : Cond.fieldLink "java/lang/Throwable" 198 "java/lang/Throwable" "backtrace" "Ljava/lang/Object;" ∈ GW := gw_of (i := 616) (by decide +kernel) rfl
theorem gw620 : Cond.methodLink "java/lang/Throwable" 1 objectInit ∈ GW := gw_of (i := 620) (by decide +kernel) rfl
theorem gw621 : Cond.fieldLink "java/lang/Throwable" 13 "java/lang/Throwable" "UNASSIGNED_STACK" "[Ljava/lang/StackTraceElement;" ∈ GW := gw_of (i := 621) (by decide +kernel) rfl
theorem gw623 : Cond.fieldLink "java/lang/Throwable" 20 "java/lang/Throwable" "SUPPRESSED_SENTINEL" "Ljava/util/List;" ∈ GW := gw_of (i := 623) (by decide +kernel) rfl
theorem gw638 : Cond.instantiable "java/lang/Throwable" 6 ∈ GW := gw_of (i := 638) (by decide +kernel) rfl
theorem gw654 : Cond.fieldLink "java/lang/Throwable" 31 "java/lang/Throwable" "detailMessage" "Ljava/lang/String;" ∈ GW := gw_of (i := 654) (by decide +kernel) rfl
theorem gw655 : Cond.fieldLink "java/lang/Throwable" 7 "java/lang/Throwable" "cause" "Ljava/lang/Throwable;" ∈ GW := gw_of (i := 655) (by decide +kernel) rfl
theorem gw656 : Cond.fieldLink "java/lang/Throwable" 17 "java/lang/Throwable" "stackTrace" "[Ljava/lang/StackTraceElement;" ∈ GW := gw_of (i := 656) (by decide +kernel) rfl
theorem gw657 : Cond.fieldLink "java/lang/Throwable" 24 "java/lang/Throwable" "suppressedExceptions" "Ljava/util/List;" ∈ GW := gw_of (i := 657) (by decide +kernel) rfl
theorem gw666 : Cond.arrayClass .byte ∈ GW := gw_of (i := 666) (by decide +kernel) rfl
theorem gw667 : Cond.classLink RX6 67 "java/lang/IllegalStateException" ∈ GW := gw_of (i := 667) (by decide +kernel) rfl
theorem gw668 : Cond.instantiable "java/lang/IllegalStateException" 6 ∈ GW := gw_of (i := 668) (by decide +kernel) rfl
theorem gw669 : Cond.castable "java/lang/IllegalStateException" "java/lang/IllegalStateException" ∈ NW := nw_of (i := 669) (by decide +kernel) rfl
theorem gw683 : Cond.methodLink RX6 76 yX2_addNode ∈ GW := gw_of (i := 683) (by decide +kernel) rfl
theorem gw684 : Cond.instanceMethod yX2_addNode ∈ GW := gw_of (i := 684) (by decide +kernel) rfl
theorem gw685 : Cond.selects RX2 yX2_addNode yX2_addNode ∈ GW := gw_of (i := 685) (by decide +kernel) rfl
theorem gw686 : Cond.code yX2_addNode cX2_addNode 5 (some .int) ∈ GW := gw_of (i := 686) (by decide +kernel) rfl
theorem gw687 : Cond.methodLink RL 143 yL_member ∈ GW := gw_of (i := 687) (by decide +kernel) rfl
theorem gw688 : Cond.static yL_member ∈ GW := gw_of (i := 688) (by decide +kernel) rfl
theorem gw689 : Cond.codeWith yL_member cL_member 6 (some .int) [(0, 9, 10, 28), (0, 9, 15, 20), (0, 9, 20, 22)] ∈ GW := gw_of (i := 689) (by decide +kernel) rfl
theorem gw690 : Cond.classLink RL 28 "java/lang/IndexOutOfBoundsException" ∈ GW := gw_of (i := 690) (by decide +kernel) rfl
theorem gw691 : Cond.instantiable RJx00060 6 ∈ GW := gw_of (i := 691) (by decide +kernel) rfl
theorem gw692 : Cond.instanceMethod yJx00060_init_a7421 ∈ GW := gw_of (i := 692) (by decide +kernel) rfl
theorem gw693 : Cond.code yJx00060_init_a7421 cJx00060_init_a7421 2 none ∈ GW := gw_of (i := 693) (by decide +kernel) rfl
theorem gw705 : Cond.castable RJx00060 RJx00060 ∈ NW := nw_of (i := 705) (by decide +kernel) rfl
theorem gw709 : Cond.instantiable RJ0 4 ∈ GW := gw_of (i := 709) (by decide +kernel) rfl
theorem gw714 : Cond.methodLink RL 24 yX6_member ∈ GW := gw_of (i := 714) (by decide +kernel) rfl
theorem gw715 : Cond.instanceMethod yX6_member ∈ GW := gw_of (i := 715) (by decide +kernel) rfl
theorem gw716 : Cond.selects RX6 yX6_member yX6_member ∈ GW := gw_of (i := 716) (by decide +kernel) rfl
theorem gw717 : Cond.code yX6_member cX6_member 5 (some .int) ∈ GW := gw_of (i := 717) (by decide +kernel) rfl
theorem gw718 : Cond.methodLink RX6 80 yX6_checkNode ∈ GW := gw_of (i := 718) (by decide +kernel) rfl
theorem gw720 : Cond.instanceMethod yX6_checkNode ∈ GW := gw_of (i := 720) (by decide +kernel) rfl
theorem gw721 : Cond.code yX6_checkNode cX6_checkNode 2 none ∈ GW := gw_of (i := 721) (by decide +kernel) rfl
theorem gw722 : Cond.classLink RX6 228 "java/lang/IndexOutOfBoundsException" ∈ GW := gw_of (i := 722) (by decide +kernel) rfl
theorem gw723 : Cond.instantiable "java/lang/IndexOutOfBoundsException" 6 ∈ GW := gw_of (i := 723) (by decide +kernel) rfl
theorem gw724 : Cond.castable "java/lang/IndexOutOfBoundsException" "java/lang/IndexOutOfBoundsException" ∈ NW := nw_of (i := 724) (by decide +kernel) rfl
theorem gw735 : Cond.methodLink RX6 84 yX2_isOnePlace ∈ GW := gw_of (i := 735) (by decide +kernel) rfl
theorem gw736 : Cond.instanceMethod yX2_isOnePlace ∈ GW := gw_of (i := 736) (by decide +kernel) rfl
theorem gw737 : Cond.selects RX2 yX2_isOnePlace yX2_isOnePlace ∈ GW := gw_of (i := 737) (by decide +kernel) rfl
theorem gw738 : Cond.code yX2_isOnePlace cX2_isOnePlace 3 (some .boolean) ∈ GW := gw_of (i := 738) (by decide +kernel) rfl
theorem gw739 : Cond.methodLink RX6 88 yX6_isSection ∈ GW := gw_of (i := 739) (by decide +kernel) rfl
theorem gw740 : Cond.static yX6_isSection ∈ GW := gw_of (i := 740) (by decide +kernel) rfl
theorem gw741 : Cond.code yX6_isSection cX6_isSection 2 (some .boolean) ∈ GW := gw_of (i := 741) (by decide +kernel) rfl
theorem gw744 : Cond.methodLink RX6 100 yX2_addMember ∈ GW := gw_of (i := 744) (by decide +kernel) rfl
theorem gw745 : Cond.instanceMethod yX2_addMember ∈ GW := gw_of (i := 745) (by decide +kernel) rfl
theorem gw746 : Cond.selects RX2 yX2_addMember yX2_addMember ∈ GW := gw_of (i := 746) (by decide +kernel) rfl
theorem gw747 : Cond.code yX2_addMember cX2_addMember 6 (some .int) ∈ GW := gw_of (i := 747) (by decide +kernel) rfl
theorem gw748 : Cond.methodLink RL 146 yL_load ∈ GW := gw_of (i := 748) (by decide +kernel) rfl
theorem gw749 : Cond.static yL_load ∈ GW := gw_of (i := 749) (by decide +kernel) rfl
theorem gw750 : Cond.codeWith yL_load cL_load 5 (some .int) [(0, 7, 8, 28), (0, 7, 13, 20)] ∈ GW := gw_of (i := 750) (by decide +kernel) rfl
theorem gw751 : Cond.methodLink RL 30 yX6_load ∈ GW := gw_of (i := 751) (by decide +kernel) rfl
theorem gw752 : Cond.instanceMethod yX6_load ∈ GW := gw_of (i := 752) (by decide +kernel) rfl
theorem gw753 : Cond.selects RX6 yX6_load yX6_load ∈ GW := gw_of (i := 753) (by decide +kernel) rfl
theorem gw754 : Cond.code yX6_load cX6_load 4 (some .int) ∈ GW := gw_of (i := 754) (by decide +kernel) rfl
theorem gw756 : Cond.methodLink RX6 106 yX2_addLoad ∈ GW := gw_of (i := 756) (by decide +kernel) rfl
theorem gw757 : Cond.instanceMethod yX2_addLoad ∈ GW := gw_of (i := 757) (by decide +kernel) rfl
theorem gw758 : Cond.selects RX2 yX2_addLoad yX2_addLoad ∈ GW := gw_of (i := 758) (by decide +kernel) rfl
theorem gw759 : Cond.code yX2_addLoad cX2_addLoad 4 (some .int) ∈ GW := gw_of (i := 759) (by decide +kernel) rfl
theorem gw760 : Cond.methodLink RL 151 yL_joint ∈ GW := gw_of (i := 760) (by decide +kernel) rfl
theorem gw761 : Cond.static yL_joint ∈ GW := gw_of (i := 761) (by decide +kernel) rfl
theorem gw762 : Cond.codeWith yL_joint cL_joint 7 (some .int) [(0, 11, 12, 28), (0, 11, 17, 20), (0, 11, 22, 59), (0, 11, 27, 22)] ∈ GW := gw_of (i := 762) (by decide +kernel) rfl
theorem gw763 : Cond.classLink RL 59 "java/lang/UnsupportedOperationException" ∈ GW := gw_of (i := 763) (by decide +kernel) rfl
theorem gw764 : Cond.methodLink RL 55 yX6_joint ∈ GW := gw_of (i := 764) (by decide +kernel) rfl
theorem gw765 : Cond.instanceMethod yX6_joint ∈ GW := gw_of (i := 765) (by decide +kernel) rfl
theorem gw766 : Cond.selects RX6 yX6_joint yX6_joint ∈ GW := gw_of (i := 766) (by decide +kernel) rfl
theorem gw767 : Cond.code yX6_joint cX6_joint 6 (some .int) ∈ GW := gw_of (i := 767) (by decide +kernel) rfl
theorem gw768 : Cond.methodLink RX6 118 yX6_checkMember ∈ GW := gw_of (i := 768) (by decide +kernel) rfl
theorem gw770 : Cond.instanceMethod yX6_checkMember ∈ GW := gw_of (i := 770) (by decide +kernel) rfl
theorem gw771 : Cond.code yX6_checkMember cX6_checkMember 2 none ∈ GW := gw_of (i := 771) (by decide +kernel) rfl
theorem gw773 : Cond.methodLink RX6 153 yX3_wayIndex ∈ GW := gw_of (i := 773) (by decide +kernel) rfl
theorem gw774 : Cond.instanceMethod yX3_wayIndex ∈ GW := gw_of (i := 774) (by decide +kernel) rfl
theorem gw775 : Cond.selects RX3 yX3_wayIndex yX3_wayIndex ∈ GW := gw_of (i := 775) (by decide +kernel) rfl
theorem gw776 : Cond.code yX3_wayIndex cX3_wayIndex 2 (some .int) ∈ GW := gw_of (i := 776) (by decide +kernel) rfl
theorem gw778 : Cond.methodLink RX3 29 yJ0_indexOf_0f7a4 ∈ GW := gw_of (i := 778) (by decide +kernel) rfl
theorem gw780 : Cond.methodLink RX6 159 yX2_haveCommonNode ∈ GW := gw_of (i := 780) (by decide +kernel) rfl
theorem gw781 : Cond.instanceMethod yX2_haveCommonNode ∈ GW := gw_of (i := 781) (by decide +kernel) rfl
theorem gw782 : Cond.selects RX2 yX2_haveCommonNode yX2_haveCommonNode ∈ GW := gw_of (i := 782) (by decide +kernel) rfl
theorem gw783 : Cond.code yX2_haveCommonNode cX2_haveCommonNode 3 (some .boolean) ∈ GW := gw_of (i := 783) (by decide +kernel) rfl
theorem gw784 : Cond.methodLink RX6 162 yX3_areJoined ∈ GW := gw_of (i := 784) (by decide +kernel) rfl
theorem gw785 : Cond.instanceMethod yX3_areJoined ∈ GW := gw_of (i := 785) (by decide +kernel) rfl
theorem gw786 : Cond.selects RX3 yX3_areJoined yX3_areJoined ∈ GW := gw_of (i := 786) (by decide +kernel) rfl
theorem gw787 : Cond.code yX3_areJoined cX3_areJoined 4 (some .boolean) ∈ GW := gw_of (i := 787) (by decide +kernel) rfl
theorem gw788 : Cond.methodLink RX3 39 yX3_partner ∈ GW := gw_of (i := 788) (by decide +kernel) rfl
theorem gw789 : Cond.classLink RX6 165 "java/lang/UnsupportedOperationException" ∈ GW := gw_of (i := 789) (by decide +kernel) rfl
theorem gw790 : Cond.instantiable "java/lang/UnsupportedOperationException" 6 ∈ GW := gw_of (i := 790) (by decide +kernel) rfl
theorem gw791 : Cond.castable "java/lang/UnsupportedOperationException" "java/lang/UnsupportedOperationException" ∈ NW := nw_of (i := 791) (by decide +kernel) rfl
theorem gw806 : Cond.methodLink RX6 175 yX3_add ∈ GW := gw_of (i := 806) (by decide +kernel) rfl
theorem gw807 : Cond.instanceMethod yX3_add ∈ GW := gw_of (i := 807) (by decide +kernel) rfl
theorem gw808 : Cond.selects RX3 yX3_add yX3_add ∈ GW := gw_of (i := 808) (by decide +kernel) rfl
theorem gw809 : Cond.code yX3_add cX3_add 7 (some .int) ∈ GW := gw_of (i := 809) (by decide +kernel) rfl
theorem gw810 : Cond.methodLink RL 159 yL_cutAt ∈ GW := gw_of (i := 810) (by decide +kernel) rfl
theorem gw811 : Cond.static yL_cutAt ∈ GW := gw_of (i := 811) (by decide +kernel) rfl
theorem gw812 : Cond.codeWith yL_cutAt cL_cutAt 4 (some .int) [(0, 6, 7, 28), (0, 6, 11, 20)] ∈ GW := gw_of (i := 812) (by decide +kernel) rfl
theorem gw813 : Cond.methodLink RL 68 yX6_cutAt ∈ GW := gw_of (i := 813) (by decide +kernel) rfl
theorem gw814 : Cond.instanceMethod yX6_cutAt ∈ GW := gw_of (i := 814) (by decide +kernel) rfl
theorem gw815 : Cond.selects RX6 yX6_cutAt yX6_cutAt ∈ GW := gw_of (i := 815) (by decide +kernel) rfl
theorem gw816 : Cond.code yX6_cutAt cX6_cutAt 4 (some .int) ∈ GW := gw_of (i := 816) (by decide +kernel) rfl
theorem gw817 : Cond.methodLink RX6 192 yX6_checkMoisture ∈ GW := gw_of (i := 817) (by decide +kernel) rfl
theorem gw819 : Cond.instanceMethod yX6_checkMoisture ∈ GW := gw_of (i := 819) (by decide +kernel) rfl
theorem gw820 : Cond.code yX6_checkMoisture cX6_checkMoisture 2 none ∈ GW := gw_of (i := 820) (by decide +kernel) rfl
theorem gw822 : Cond.methodLink RL 162 yL_dry ∈ GW := gw_of (i := 822) (by decide +kernel) rfl
theorem gw823 : Cond.static yL_dry ∈ GW := gw_of (i := 823) (by decide +kernel) rfl
theorem gw824 : Cond.codeWith yL_dry cL_dry 4 (some .int) [(0, 6, 7, 28), (0, 6, 11, 20)] ∈ GW := gw_of (i := 824) (by decide +kernel) rfl
theorem gw825 : Cond.methodLink RL 72 yX6_dry ∈ GW := gw_of (i := 825) (by decide +kernel) rfl
theorem gw826 : Cond.instanceMethod yX6_dry ∈ GW := gw_of (i := 826) (by decide +kernel) rfl
theorem gw827 : Cond.selects RX6 yX6_dry yX6_dry ∈ GW := gw_of (i := 827) (by decide +kernel) rfl
theorem gw828 : Cond.code yX6_dry cX6_dry 4 (some .int) ∈ GW := gw_of (i := 828) (by decide +kernel) rfl
theorem gw829 : Cond.methodLink RL 154 yL_stick ∈ GW := gw_of (i := 829) (by decide +kernel) rfl
theorem gw830 : Cond.static yL_stick ∈ GW := gw_of (i := 830) (by decide +kernel) rfl
theorem gw831 : Cond.codeWith yL_stick cL_stick 5 (some .int) [(0, 7, 8, 20), (0, 7, 13, 22)] ∈ GW := gw_of (i := 831) (by decide +kernel) rfl
theorem gw832 : Cond.methodLink RL 81 yX6_stick ∈ GW := gw_of (i := 832) (by decide +kernel) rfl
theorem gw833 : Cond.instanceMethod yX6_stick ∈ GW := gw_of (i := 833) (by decide +kernel) rfl
theorem gw834 : Cond.selects RX6 yX6_stick yX6_stick ∈ GW := gw_of (i := 834) (by decide +kernel) rfl
theorem gw835 : Cond.code yX6_stick cX6_stick 4 (some .int) ∈ GW := gw_of (i := 835) (by decide +kernel) rfl
theorem gw838 : Cond.methodLink RX6 213 yX0_add ∈ GW := gw_of (i := 838) (by decide +kernel) rfl
theorem gw839 : Cond.instanceMethod yX0_add ∈ GW := gw_of (i := 839) (by decide +kernel) rfl
theorem gw840 : Cond.selects RX0 yX0_add yX0_add ∈ GW := gw_of (i := 840) (by decide +kernel) rfl
theorem gw841 : Cond.code yX0_add cX0_add 5 (some .int) ∈ GW := gw_of (i := 841) (by decide +kernel) rfl
theorem gw842 : Cond.methodLink RL 156 yL_setProps ∈ GW := gw_of (i := 842) (by decide +kernel) rfl
theorem gw843 : Cond.static yL_setProps ∈ GW := gw_of (i := 843) (by decide +kernel) rfl
theorem gw844 : Cond.codeWith yL_setProps cL_setProps 3 (some .int) [(0, 5, 6, 20)] ∈ GW := gw_of (i := 844) (by decide +kernel) rfl
theorem gw845 : Cond.methodLink RL 96 yX6_setProps ∈ GW := gw_of (i := 845) (by decide +kernel) rfl
theorem gw846 : Cond.instanceMethod yX6_setProps ∈ GW := gw_of (i := 846) (by decide +kernel) rfl
theorem gw847 : Cond.selects RX6 yX6_setProps yX6_setProps ∈ GW := gw_of (i := 847) (by decide +kernel) rfl
theorem gw848 : Cond.code yX6_setProps cX6_setProps 3 (some .int) ∈ GW := gw_of (i := 848) (by decide +kernel) rfl
theorem gw850 : Cond.methodLink RL 164 yL_isFrame ∈ GW := gw_of (i := 850) (by decide +kernel) rfl
theorem gw851 : Cond.static yL_isFrame ∈ GW := gw_of (i := 851) (by decide +kernel) rfl
theorem gw852 : Cond.code yL_isFrame cL_isFrame 16 (some .boolean) ∈ GW := gw_of (i := 852) (by decide +kernel) rfl
theorem gw853 : Cond.methodLink RL 186 yX6_state ∈ GW := gw_of (i := 853) (by decide +kernel) rfl
theorem gw854 : Cond.instanceMethod yX6_state ∈ GW := gw_of (i := 854) (by decide +kernel) rfl
theorem gw855 : Cond.selects RX6 yX6_state yX6_state ∈ GW := gw_of (i := 855) (by decide +kernel) rfl
theorem gw856 : Cond.code yX6_state cX6_state 1 (some .char) ∈ GW := gw_of (i := 856) (by decide +kernel) rfl
theorem gw858 : Cond.methodLink RL 192 yJ0_indexOf_0f7a4 ∈ GW := gw_of (i := 858) (by decide +kernel) rfl
theorem gw859 : Cond.methodLink RL 195 yL_allForce ∈ GW := gw_of (i := 859) (by decide +kernel) rfl
theorem gw860 : Cond.static yL_allForce ∈ GW := gw_of (i := 860) (by decide +kernel) rfl
theorem gw861 : Cond.codeWith yL_allForce cL_allForce 2 (some .long) [(0, 4, 5, 22)] ∈ GW := gw_of (i := 861) (by decide +kernel) rfl
theorem gw862 : Cond.methodLink RL 108 yX6_allForce ∈ GW := gw_of (i := 862) (by decide +kernel) rfl
theorem gw863 : Cond.instanceMethod yX6_allForce ∈ GW := gw_of (i := 863) (by decide +kernel) rfl
theorem gw864 : Cond.selects RX6 yX6_allForce yX6_allForce ∈ GW := gw_of (i := 864) (by decide +kernel) rfl
theorem gw865 : Cond.code yX6_allForce cX6_allForce 4 (some .long) ∈ GW := gw_of (i := 865) (by decide +kernel) rfl
theorem gw866 : Cond.methodLink RX6 121 yX6_checkStanding ∈ GW := gw_of (i := 866) (by decide +kernel) rfl
theorem gw868 : Cond.instanceMethod yX6_checkStanding ∈ GW := gw_of (i := 868) (by decide +kernel) rfl
theorem gw869 : Cond.code yX6_checkStanding cX6_checkStanding 1 none ∈ GW := gw_of (i := 869) (by decide +kernel) rfl
theorem gw871 : Cond.methodLink RX6 147 Lib.MathLoose.abs_long.x ∈ GW := gw_of (i := 871) (by decide +kernel) rfl
theorem gw872 : Cond.constantLong RL 40 (-79) ∈ GW := gw_of (i := 872) (by decide +kernel) rfl
theorem gw873 : Cond.methodLink RL 198 yL_weakest ∈ GW := gw_of (i := 873) (by decide +kernel) rfl
theorem gw874 : Cond.static yL_weakest ∈ GW := gw_of (i := 874) (by decide +kernel) rfl
theorem gw875 : Cond.codeWith yL_weakest cL_weakest 2 (some .int) [(0, 4, 5, 22), (0, 4, 9, 53)] ∈ GW := gw_of (i := 875) (by decide +kernel) rfl
theorem gw876 : Cond.classLink RL 53 "java/util/NoSuchElementException" ∈ GW := gw_of (i := 876) (by decide +kernel) rfl
theorem gw877 : Cond.methodLink RL 49 yX6_weakest ∈ GW := gw_of (i := 877) (by decide +kernel) rfl
theorem gw878 : Cond.instanceMethod yX6_weakest ∈ GW := gw_of (i := 878) (by decide +kernel) rfl
theorem gw879 : Cond.selects RX6 yX6_weakest yX6_weakest ∈ GW := gw_of (i := 879) (by decide +kernel) rfl
theorem gw880 : Cond.code yX6_weakest cX6_weakest 3 (some .int) ∈ GW := gw_of (i := 880) (by decide +kernel) rfl
theorem gw881 : Cond.classLink RX6 142 "java/util/NoSuchElementException" ∈ GW := gw_of (i := 881) (by decide +kernel) rfl
theorem gw882 : Cond.instantiable "java/util/NoSuchElementException" 6 ∈ GW := gw_of (i := 882) (by decide +kernel) rfl
theorem gw883 : Cond.castable "java/util/NoSuchElementException" "java/util/NoSuchElementException" ∈ NW := nw_of (i := 883) (by decide +kernel) rfl
theorem gw897 : Cond.methodLink RL 201 yL_isBalanced ∈ GW := gw_of (i := 897) (by decide +kernel) rfl
theorem gw898 : Cond.static yL_isBalanced ∈ GW := gw_of (i := 898) (by decide +kernel) rfl
theorem gw899 : Cond.codeWith yL_isBalanced cL_isBalanced 3 (some .int) [(0, 13, 14, 20), (0, 13, 18, 22)] ∈ GW := gw_of (i := 899) (by decide +kernel) rfl
theorem gw900 : Cond.methodLink RL 45 yX6_isBalanced ∈ GW := gw_of (i := 900) (by decide +kernel) rfl
theorem gw901 : Cond.instanceMethod yX6_isBalanced ∈ GW := gw_of (i := 901) (by decide +kernel) rfl
theorem gw902 : Cond.selects RX6 yX6_isBalanced yX6_isBalanced ∈ GW := gw_of (i := 902) (by decide +kernel) rfl
theorem gw903 : Cond.code yX6_isBalanced cX6_isBalanced 2 (some .boolean) ∈ GW := gw_of (i := 903) (by decide +kernel) rfl
theorem gw905 : Cond.methodLink RL 203 yL_meanPull ∈ GW := gw_of (i := 905) (by decide +kernel) rfl
theorem gw906 : Cond.static yL_meanPull ∈ GW := gw_of (i := 906) (by decide +kernel) rfl
theorem gw907 : Cond.codeWith yL_meanPull cL_meanPull 2 (some .double) [(0, 4, 5, 22), (0, 4, 10, 116)] ∈ GW := gw_of (i := 907) (by decide +kernel) rfl
theorem gw908 : Cond.classLink RL 116 "java/lang/ArithmeticException" ∈ GW := gw_of (i := 908) (by decide +kernel) rfl
theorem gw909 : Cond.instantiable "java/lang/ArithmeticException" 6 ∈ GW := gw_of (i := 909) (by decide +kernel) rfl
theorem gw920 : Cond.castable "java/lang/ArithmeticException" "java/lang/ArithmeticException" ∈ NW := nw_of (i := 920) (by decide +kernel) rfl
theorem gw922 : Cond.methodLink RL 119 yX6_meanPull ∈ GW := gw_of (i := 922) (by decide +kernel) rfl
theorem gw923 : Cond.instanceMethod yX6_meanPull ∈ GW := gw_of (i := 923) (by decide +kernel) rfl
theorem gw924 : Cond.selects RX6 yX6_meanPull yX6_meanPull ∈ GW := gw_of (i := 924) (by decide +kernel) rfl
theorem gw925 : Cond.code yX6_meanPull cX6_meanPull 1 (some .double) ∈ GW := gw_of (i := 925) (by decide +kernel) rfl
theorem gw926 : Cond.classLink RX6 266 "java/lang/ArithmeticException" ∈ GW := gw_of (i := 926) (by decide +kernel) rfl
theorem gw928 : Cond.methodLink RX6 269 yX1_sumOfThousandths ∈ GW := gw_of (i := 928) (by decide +kernel) rfl
theorem gw929 : Cond.instanceMethod yX1_sumOfThousandths ∈ GW := gw_of (i := 929) (by decide +kernel) rfl
theorem gw930 : Cond.selects RX1 yX1_sumOfThousandths yX1_sumOfThousandths ∈ GW := gw_of (i := 930) (by decide +kernel) rfl
theorem gw931 : Cond.code yX1_sumOfThousandths cX1_sumOfThousandths 7 (some .double) ∈ GW := gw_of (i := 931) (by decide +kernel) rfl
theorem gw932 : Cond.constantLong RX1 173 (1000) ∈ GW := gw_of (i := 932) (by decide +kernel) rfl
theorem gw933 : Cond.constantLong RX1 181 (4294967295) ∈ GW := gw_of (i := 933) (by decide +kernel) rfl
theorem gw934 : Cond.methodLink RX1 175 yX1_restInThousandths ∈ GW := gw_of (i := 934) (by decide +kernel) rfl
theorem gw936 : Cond.instanceMethod yX1_restInThousandths ∈ GW := gw_of (i := 936) (by decide +kernel) rfl
theorem gw937 : Cond.code yX1_restInThousandths cX1_restInThousandths 7 (some .long) ∈ GW := gw_of (i := 937) (by decide +kernel) rfl
theorem gw938 : Cond.constantLong RX1 179 (10) ∈ GW := gw_of (i := 938) (by decide +kernel) rfl
theorem gw939 : Cond.constantDouble RX1 183 (4751297606875873280) ∈ GW := gw_of (i := 939) (by decide +kernel) rfl
theorem gw940 : Cond.constantDouble RL 123 (13858631584581681152) ∈ GW := gw_of (i := 940) (by decide +kernel) rfl
theorem gw941 : Cond.constantDouble RL 125 (13858279740860792832) ∈ GW := gw_of (i := 941) (by decide +kernel) rfl
theorem gw942 : Cond.methodLink RL 206 yL_force ∈ GW := gw_of (i := 942) (by decide +kernel) rfl
theorem gw943 : Cond.static yL_force ∈ GW := gw_of (i := 943) (by decide +kernel) rfl
theorem gw944 : Cond.codeWith yL_force cL_force 3 (some .long) [(0, 5, 6, 28), (0, 5, 11, 22)] ∈ GW := gw_of (i := 944) (by decide +kernel) rfl
theorem gw945 : Cond.methodLink RL 34 yX6_force ∈ GW := gw_of (i := 945) (by decide +kernel) rfl
theorem gw946 : Cond.instanceMethod yX6_force ∈ GW := gw_of (i := 946) (by decide +kernel) rfl
theorem gw947 : Cond.selects RX6 yX6_force yX6_force ∈ GW := gw_of (i := 947) (by decide +kernel) rfl
theorem gw948 : Cond.code yX6_force cX6_force 2 (some .long) ∈ GW := gw_of (i := 948) (by decide +kernel) rfl
theorem gw949 : Cond.constantLong RL 38 (-77) ∈ GW := gw_of (i := 949) (by decide +kernel) rfl
theorem gw950 : Cond.methodLink RL 209 yL_pull ∈ GW := gw_of (i := 950) (by decide +kernel) rfl
theorem gw951 : Cond.static yL_pull ∈ GW := gw_of (i := 951) (by decide +kernel) rfl
theorem gw952 : Cond.codeWith yL_pull cL_pull 3 (some .long) [(0, 5, 6, 28), (0, 5, 11, 22)] ∈ GW := gw_of (i := 952) (by decide +kernel) rfl
theorem gw953 : Cond.methodLink RL 42 yX6_pull ∈ GW := gw_of (i := 953) (by decide +kernel) rfl
theorem gw954 : Cond.instanceMethod yX6_pull ∈ GW := gw_of (i := 954) (by decide +kernel) rfl
theorem gw955 : Cond.selects RX6 yX6_pull yX6_pull ∈ GW := gw_of (i := 955) (by decide +kernel) rfl
theorem gw956 : Cond.code yX6_pull cX6_pull 2 (some .long) ∈ GW := gw_of (i := 956) (by decide +kernel) rfl
theorem gw957 : Cond.methodLink RX6 128 yX1_thousandths ∈ GW := gw_of (i := 957) (by decide +kernel) rfl
theorem gw958 : Cond.instanceMethod yX1_thousandths ∈ GW := gw_of (i := 958) (by decide +kernel) rfl
theorem gw959 : Cond.selects RX1 yX1_thousandths yX1_thousandths ∈ GW := gw_of (i := 959) (by decide +kernel) rfl
theorem gw960 : Cond.code yX1_thousandths cX1_thousandths 2 (some .long) ∈ GW := gw_of (i := 960) (by decide +kernel) rfl
theorem gw961 : Cond.methodLink RL 211 Lib.MathLoose.abs_long.x ∈ GW := gw_of (i := 961) (by decide +kernel) rfl
theorem gw962 : Cond.methodLink RL 217 yJ9_max_f86c9 ∈ GW := gw_of (i := 962) (by decide +kernel) rfl
theorem gw963 : Cond.static yJ9_max_f86c9 ∈ GW := gw_of (i := 963) (by decide +kernel) rfl
theorem gw964 : Cond.code yJ9_max_f86c9 cJ9_max_f86c9 4 (some .long) ∈ GW := gw_of (i := 964) (by decide +kernel) rfl
theorem gw965 : Cond.methodLink RL 168 yL_areJoints ∈ GW := gw_of (i := 965) (by decide +kernel) rfl
theorem gw966 : Cond.static yL_areJoints ∈ GW := gw_of (i := 966) (by decide +kernel) rfl
theorem gw967 : Cond.code yL_areJoints cL_areJoints 8 (some .boolean) ∈ GW := gw_of (i := 967) (by decide +kernel) rfl
theorem gw968 : Cond.methodLink RL 221 yL_isRight ∈ GW := gw_of (i := 968) (by decide +kernel) rfl
theorem gw969 : Cond.static yL_isRight ∈ GW := gw_of (i := 969) (by decide +kernel) rfl
theorem gw970 : Cond.codeWith yL_isRight cL_isRight 3 (some .int) [(0, 13, 14, 28)] ∈ GW := gw_of (i := 970) (by decide +kernel) rfl
theorem gw971 : Cond.methodLink RL 61 yX6_isRight ∈ GW := gw_of (i := 971) (by decide +kernel) rfl
theorem gw972 : Cond.instanceMethod yX6_isRight ∈ GW := gw_of (i := 972) (by decide +kernel) rfl
theorem gw973 : Cond.selects RX6 yX6_isRight yX6_isRight ∈ GW := gw_of (i := 973) (by decide +kernel) rfl
theorem gw974 : Cond.code yX6_isRight cX6_isRight 2 (some .boolean) ∈ GW := gw_of (i := 974) (by decide +kernel) rfl
theorem gw975 : Cond.methodLink RX6 179 yX6_checkJoint ∈ GW := gw_of (i := 975) (by decide +kernel) rfl
theorem gw977 : Cond.instanceMethod yX6_checkJoint ∈ GW := gw_of (i := 977) (by decide +kernel) rfl
theorem gw978 : Cond.code yX6_checkJoint cX6_checkJoint 2 none ∈ GW := gw_of (i := 978) (by decide +kernel) rfl
theorem gw980 : Cond.methodLink RX6 182 yX3_isThinEnough ∈ GW := gw_of (i := 980) (by decide +kernel) rfl
theorem gw981 : Cond.instanceMethod yX3_isThinEnough ∈ GW := gw_of (i := 981) (by decide +kernel) rfl
theorem gw982 : Cond.selects RX3 yX3_isThinEnough yX3_isThinEnough ∈ GW := gw_of (i := 982) (by decide +kernel) rfl
theorem gw983 : Cond.code yX3_isThinEnough cX3_isThinEnough 5 (some .boolean) ∈ GW := gw_of (i := 983) (by decide +kernel) rfl
theorem gw984 : Cond.methodLink RX3 48 Lib.Math.min.name ∈ GW := gw_of (i := 984) (by decide +kernel) rfl
theorem gw985 : Cond.methodLink RL 223 yL_misread ∈ GW := gw_of (i := 985) (by decide +kernel) rfl
theorem gw986 : Cond.static yL_misread ∈ GW := gw_of (i := 986) (by decide +kernel) rfl
theorem gw987 : Cond.codeWith yL_misread cL_misread 3 (some .int) [(0, 5, 6, 28)] ∈ GW := gw_of (i := 987) (by decide +kernel) rfl
theorem gw988 : Cond.methodLink RL 64 yX6_misread ∈ GW := gw_of (i := 988) (by decide +kernel) rfl
theorem gw989 : Cond.instanceMethod yX6_misread ∈ GW := gw_of (i := 989) (by decide +kernel) rfl
theorem gw990 : Cond.selects RX6 yX6_misread yX6_misread ∈ GW := gw_of (i := 990) (by decide +kernel) rfl
theorem gw991 : Cond.code yX6_misread cX6_misread 2 (some .int) ∈ GW := gw_of (i := 991) (by decide +kernel) rfl
theorem gw992 : Cond.methodLink RX6 186 yX3_misreadMark ∈ GW := gw_of (i := 992) (by decide +kernel) rfl
theorem gw993 : Cond.instanceMethod yX3_misreadMark ∈ GW := gw_of (i := 993) (by decide +kernel) rfl
theorem gw994 : Cond.selects RX3 yX3_misreadMark yX3_misreadMark ∈ GW := gw_of (i := 994) (by decide +kernel) rfl
theorem gw995 : Cond.code yX3_misreadMark cX3_misreadMark 4 (some .int) ∈ GW := gw_of (i := 995) (by decide +kernel) rfl
theorem gw996 : Cond.methodLink RL 225 yL_gap ∈ GW := gw_of (i := 996) (by decide +kernel) rfl
theorem gw997 : Cond.static yL_gap ∈ GW := gw_of (i := 997) (by decide +kernel) rfl
theorem gw998 : Cond.codeWith yL_gap cL_gap 3 (some .int) [(0, 5, 6, 28)] ∈ GW := gw_of (i := 998) (by decide +kernel) rfl
theorem gw999 : Cond.methodLink RL 75 yX6_gap ∈ GW := gw_of (i := 999) (by decide +kernel) rfl
theorem gw1000 : Cond.instanceMethod yX6_gap ∈ GW := gw_of (i := 1000) (by decide +kernel) rfl
theorem gw1001 : Cond.selects RX6 yX6_gap yX6_gap ∈ GW := gw_of (i := 1001) (by decide +kernel) rfl
theorem gw1002 : Cond.code yX6_gap cX6_gap 2 (some .int) ∈ GW := gw_of (i := 1002) (by decide +kernel) rfl
theorem gw1003 : Cond.methodLink RX6 202 yX3_opening ∈ GW := gw_of (i := 1003) (by decide +kernel) rfl
theorem gw1004 : Cond.instanceMethod yX3_opening ∈ GW := gw_of (i := 1004) (by decide +kernel) rfl
theorem gw1005 : Cond.selects RX3 yX3_opening yX3_opening ∈ GW := gw_of (i := 1005) (by decide +kernel) rfl
theorem gw1006 : Cond.code yX3_opening cX3_opening 6 (some .int) ∈ GW := gw_of (i := 1006) (by decide +kernel) rfl
theorem gw1007 : Cond.methodLink RL 227 Lib.Math.max.name ∈ GW := gw_of (i := 1007) (by decide +kernel) rfl
theorem gw1008 : Cond.methodLink RL 229 yL_widest ∈ GW := gw_of (i := 1008) (by decide +kernel) rfl
theorem gw1009 : Cond.static yL_widest ∈ GW := gw_of (i := 1009) (by decide +kernel) rfl
theorem gw1010 : Cond.codeWith yL_widest cL_widest 2 (some .int) [(0, 4, 5, 53)] ∈ GW := gw_of (i := 1010) (by decide +kernel) rfl
theorem gw1011 : Cond.methodLink RL 78 yX6_widest ∈ GW := gw_of (i := 1011) (by decide +kernel) rfl
theorem gw1012 : Cond.instanceMethod yX6_widest ∈ GW := gw_of (i := 1012) (by decide +kernel) rfl
theorem gw1013 : Cond.selects RX6 yX6_widest yX6_widest ∈ GW := gw_of (i := 1013) (by decide +kernel) rfl
theorem gw1014 : Cond.code yX6_widest cX6_widest 3 (some .int) ∈ GW := gw_of (i := 1014) (by decide +kernel) rfl
theorem gw1016 : Cond.methodLink RL 231 yL_rightShare ∈ GW := gw_of (i := 1016) (by decide +kernel) rfl
theorem gw1017 : Cond.static yL_rightShare ∈ GW := gw_of (i := 1017) (by decide +kernel) rfl
theorem gw1018 : Cond.codeWith yL_rightShare cL_rightShare 2 (some .float) [(0, 4, 5, 116)] ∈ GW := gw_of (i := 1018) (by decide +kernel) rfl
theorem gw1019 : Cond.methodLink RL 112 yX6_rightShare ∈ GW := gw_of (i := 1019) (by decide +kernel) rfl
theorem gw1020 : Cond.instanceMethod yX6_rightShare ∈ GW := gw_of (i := 1020) (by decide +kernel) rfl
theorem gw1021 : Cond.selects RX6 yX6_rightShare yX6_rightShare ∈ GW := gw_of (i := 1021) (by decide +kernel) rfl
theorem gw1022 : Cond.code yX6_rightShare cX6_rightShare 3 (some .float) ∈ GW := gw_of (i := 1022) (by decide +kernel) rfl
theorem gw1023 : Cond.constantFloat RL 118 (3264479232) ∈ GW := gw_of (i := 1023) (by decide +kernel) rfl
theorem gw1024 : Cond.methodLink RL 234 yX6_clashes ∈ GW := gw_of (i := 1024) (by decide +kernel) rfl
theorem gw1025 : Cond.instanceMethod yX6_clashes ∈ GW := gw_of (i := 1025) (by decide +kernel) rfl
theorem gw1026 : Cond.selects RX6 yX6_clashes yX6_clashes ∈ GW := gw_of (i := 1026) (by decide +kernel) rfl
theorem gw1027 : Cond.code yX6_clashes cX6_clashes 4 (some .int) ∈ GW := gw_of (i := 1027) (by decide +kernel) rfl
theorem gw1028 : Cond.methodLink RX6 189 yX3_canBeConfused ∈ GW := gw_of (i := 1028) (by decide +kernel) rfl
theorem gw1029 : Cond.instanceMethod yX3_canBeConfused ∈ GW := gw_of (i := 1029) (by decide +kernel) rfl
theorem gw1030 : Cond.selects RX3 yX3_canBeConfused yX3_canBeConfused ∈ GW := gw_of (i := 1030) (by decide +kernel) rfl
theorem gw1031 : Cond.code yX3_canBeConfused cX3_canBeConfused 3 (some .boolean) ∈ GW := gw_of (i := 1031) (by decide +kernel) rfl
theorem gw1032 : Cond.methodLink RX3 53 yX3_misreadMark ∈ GW := gw_of (i := 1032) (by decide +kernel) rfl
theorem gw1033 : Cond.methodLink RL 172 yL_isYard ∈ GW := gw_of (i := 1033) (by decide +kernel) rfl
theorem gw1034 : Cond.static yL_isYard ∈ GW := gw_of (i := 1034) (by decide +kernel) rfl
theorem gw1035 : Cond.code yL_isYard cL_isYard 10 (some .boolean) ∈ GW := gw_of (i := 1035) (by decide +kernel) rfl
theorem gw1036 : Cond.methodLink RL 237 yL_wood ∈ GW := gw_of (i := 1036) (by decide +kernel) rfl
theorem gw1037 : Cond.static yL_wood ∈ GW := gw_of (i := 1037) (by decide +kernel) rfl
theorem gw1038 : Cond.codeWith yL_wood cL_wood 2 (some .int) [(0, 4, 5, 53)] ∈ GW := gw_of (i := 1038) (by decide +kernel) rfl
theorem gw1039 : Cond.methodLink RL 90 yX6_wood ∈ GW := gw_of (i := 1039) (by decide +kernel) rfl
theorem gw1040 : Cond.instanceMethod yX6_wood ∈ GW := gw_of (i := 1040) (by decide +kernel) rfl
theorem gw1041 : Cond.selects RX6 yX6_wood yX6_wood ∈ GW := gw_of (i := 1041) (by decide +kernel) rfl
theorem gw1042 : Cond.code yX6_wood cX6_wood 1 (some .int) ∈ GW := gw_of (i := 1042) (by decide +kernel) rfl
theorem gw1043 : Cond.methodLink RX6 219 yX6_checkCut ∈ GW := gw_of (i := 1043) (by decide +kernel) rfl
theorem gw1045 : Cond.instanceMethod yX6_checkCut ∈ GW := gw_of (i := 1045) (by decide +kernel) rfl
theorem gw1046 : Cond.code yX6_checkCut cX6_checkCut 1 none ∈ GW := gw_of (i := 1046) (by decide +kernel) rfl
theorem gw1047 : Cond.methodLink RX6 290 yX0_find ∈ GW := gw_of (i := 1047) (by decide +kernel) rfl
theorem gw1048 : Cond.instanceMethod yX0_find ∈ GW := gw_of (i := 1048) (by decide +kernel) rfl
theorem gw1049 : Cond.selects RX0 yX0_find yX0_find ∈ GW := gw_of (i := 1049) (by decide +kernel) rfl
theorem gw1050 : Cond.code yX0_find cX0_find 5 none ∈ GW := gw_of (i := 1050) (by decide +kernel) rfl
theorem gw1051 : Cond.methodLink RX0 56 yX0_measure ∈ GW := gw_of (i := 1051) (by decide +kernel) rfl
theorem gw1053 : Cond.instanceMethod yX0_measure ∈ GW := gw_of (i := 1053) (by decide +kernel) rfl
theorem gw1054 : Cond.code yX0_measure cX0_measure 8 none ∈ GW := gw_of (i := 1054) (by decide +kernel) rfl
theorem gw1055 : Cond.constant RX0 74 (390625) ∈ GW := gw_of (i := 1055) (by decide +kernel) rfl
theorem gw1056 : Cond.methodLink RX0 75 yX0_pieceLength ∈ GW := gw_of (i := 1056) (by decide +kernel) rfl
theorem gw1057 : Cond.instanceMethod yX0_pieceLength ∈ GW := gw_of (i := 1057) (by decide +kernel) rfl
theorem gw1058 : Cond.selects RX0 yX0_pieceLength yX0_pieceLength ∈ GW := gw_of (i := 1058) (by decide +kernel) rfl
theorem gw1059 : Cond.code yX0_pieceLength cX0_pieceLength 6 (some .int) ∈ GW := gw_of (i := 1059) (by decide +kernel) rfl
theorem gw1060 : Cond.methodLink RX0 38 yX2_lengthSquare ∈ GW := gw_of (i := 1060) (by decide +kernel) rfl
theorem gw1061 : Cond.methodLink RX0 44 yX3_joinsGoingIn ∈ GW := gw_of (i := 1061) (by decide +kernel) rfl
theorem gw1062 : Cond.instanceMethod yX3_joinsGoingIn ∈ GW := gw_of (i := 1062) (by decide +kernel) rfl
theorem gw1063 : Cond.selects RX3 yX3_joinsGoingIn yX3_joinsGoingIn ∈ GW := gw_of (i := 1063) (by decide +kernel) rfl
theorem gw1064 : Cond.code yX3_joinsGoingIn cX3_joinsGoingIn 4 (some .int) ∈ GW := gw_of (i := 1064) (by decide +kernel) rfl
theorem gw1065 : Cond.constantLong RX0 60 (4611686018427387904) ∈ GW := gw_of (i := 1065) (by decide +kernel) rfl
theorem gw1066 : Cond.methodLink RX0 62 yX0_fitting ∈ GW := gw_of (i := 1066) (by decide +kernel) rfl
theorem gw1068 : Cond.instanceMethod yX0_fitting ∈ GW := gw_of (i := 1068) (by decide +kernel) rfl
theorem gw1069 : Cond.code yX0_fitting cX0_fitting 5 (some .int) ∈ GW := gw_of (i := 1069) (by decide +kernel) rfl
theorem gw1070 : Cond.methodLink RX0 66 yX0_offer ∈ GW := gw_of (i := 1070) (by decide +kernel) rfl
theorem gw1072 : Cond.instanceMethod yX0_offer ∈ GW := gw_of (i := 1072) (by decide +kernel) rfl
theorem gw1073 : Cond.code yX0_offer cX0_offer 11 none ∈ GW := gw_of (i := 1073) (by decide +kernel) rfl
theorem gw1074 : Cond.constantLong RX0 81 (1953125) ∈ GW := gw_of (i := 1074) (by decide +kernel) rfl
theorem gw1075 : Cond.methodLink RX0 83 Lib.MathLoose.min_long.x ∈ GW := gw_of (i := 1075) (by decide +kernel) rfl
theorem gw1076 : Cond.static Lib.MathLoose.min_long.x ∈ GW := gw_of (i := 1076) (by decide +kernel) rfl
theorem gw1077 : Cond.code Lib.MathLoose.min_long.x Lib.MathLoose.min_long.code 4 (some .long) ∈ GW := gw_of (i := 1077) (by decide +kernel) rfl
theorem gw1078 : Cond.methodLink RX0 70 yX0_choose ∈ GW := gw_of (i := 1078) (by decide +kernel) rfl
theorem gw1080 : Cond.instanceMethod yX0_choose ∈ GW := gw_of (i := 1080) (by decide +kernel) rfl
theorem gw1081 : Cond.code yX0_choose cX0_choose 5 none ∈ GW := gw_of (i := 1081) (by decide +kernel) rfl
theorem gw1083 : Cond.methodLink RL 239 yL_stickOf ∈ GW := gw_of (i := 1083) (by decide +kernel) rfl
theorem gw1084 : Cond.static yL_stickOf ∈ GW := gw_of (i := 1084) (by decide +kernel) rfl
theorem gw1085 : Cond.codeWith yL_stickOf cL_stickOf 3 (some .int) [(0, 5, 6, 28), (0, 5, 10, 53)] ∈ GW := gw_of (i := 1085) (by decide +kernel) rfl
theorem gw1086 : Cond.methodLink RL 87 yX6_stickOf ∈ GW := gw_of (i := 1086) (by decide +kernel) rfl
theorem gw1087 : Cond.instanceMethod yX6_stickOf ∈ GW := gw_of (i := 1087) (by decide +kernel) rfl
theorem gw1088 : Cond.selects RX6 yX6_stickOf yX6_stickOf ∈ GW := gw_of (i := 1088) (by decide +kernel) rfl
theorem gw1089 : Cond.code yX6_stickOf cX6_stickOf 2 (some .int) ∈ GW := gw_of (i := 1089) (by decide +kernel) rfl
theorem gw1090 : Cond.methodLink RL 241 yL_piece ∈ GW := gw_of (i := 1090) (by decide +kernel) rfl
theorem gw1091 : Cond.static yL_piece ∈ GW := gw_of (i := 1091) (by decide +kernel) rfl
theorem gw1092 : Cond.codeWith yL_piece cL_piece 3 (some .int) [(0, 5, 6, 28)] ∈ GW := gw_of (i := 1092) (by decide +kernel) rfl
theorem gw1093 : Cond.methodLink RL 84 yX6_piece ∈ GW := gw_of (i := 1093) (by decide +kernel) rfl
theorem gw1094 : Cond.instanceMethod yX6_piece ∈ GW := gw_of (i := 1094) (by decide +kernel) rfl
theorem gw1095 : Cond.selects RX6 yX6_piece yX6_piece ∈ GW := gw_of (i := 1095) (by decide +kernel) rfl
theorem gw1096 : Cond.code yX6_piece cX6_piece 2 (some .int) ∈ GW := gw_of (i := 1096) (by decide +kernel) rfl
theorem gw1097 : Cond.methodLink RX6 215 yX0_pieceLength ∈ GW := gw_of (i := 1097) (by decide +kernel) rfl
theorem gw1098 : Cond.methodLink RL 243 yL_waste ∈ GW := gw_of (i := 1098) (by decide +kernel) rfl
theorem gw1099 : Cond.static yL_waste ∈ GW := gw_of (i := 1099) (by decide +kernel) rfl
theorem gw1100 : Cond.codeWith yL_waste cL_waste 3 (some .int) [(0, 5, 6, 28), (0, 5, 10, 53)] ∈ GW := gw_of (i := 1100) (by decide +kernel) rfl
theorem gw1101 : Cond.methodLink RL 93 yX6_waste ∈ GW := gw_of (i := 1101) (by decide +kernel) rfl
theorem gw1102 : Cond.instanceMethod yX6_waste ∈ GW := gw_of (i := 1102) (by decide +kernel) rfl
theorem gw1103 : Cond.selects RX6 yX6_waste yX6_waste ∈ GW := gw_of (i := 1103) (by decide +kernel) rfl
theorem gw1104 : Cond.code yX6_waste cX6_waste 2 (some .int) ∈ GW := gw_of (i := 1104) (by decide +kernel) rfl
theorem gw1106 : Cond.methodLink RX6 233 yX0_leftOf ∈ GW := gw_of (i := 1106) (by decide +kernel) rfl
theorem gw1107 : Cond.instanceMethod yX0_leftOf ∈ GW := gw_of (i := 1107) (by decide +kernel) rfl
theorem gw1108 : Cond.selects RX0 yX0_leftOf yX0_leftOf ∈ GW := gw_of (i := 1108) (by decide +kernel) rfl
theorem gw1109 : Cond.code yX0_leftOf cX0_leftOf 5 (some .int) ∈ GW := gw_of (i := 1109) (by decide +kernel) rfl
theorem gw1110 : Cond.methodLink RL 175 yL_isRaising ∈ GW := gw_of (i := 1110) (by decide +kernel) rfl
theorem gw1111 : Cond.static yL_isRaising ∈ GW := gw_of (i := 1111) (by decide +kernel) rfl
theorem gw1112 : Cond.code yL_isRaising cL_isRaising 8 (some .boolean) ∈ GW := gw_of (i := 1112) (by decide +kernel) rfl
theorem gw1113 : Cond.methodLink RL 245 yX6_canRaise ∈ GW := gw_of (i := 1113) (by decide +kernel) rfl
theorem gw1114 : Cond.methodLink RL 248 yX6_canTakeAway ∈ GW := gw_of (i := 1114) (by decide +kernel) rfl
theorem gw1115 : Cond.methodLink RL 251 yX6_orders ∈ GW := gw_of (i := 1115) (by decide +kernel) rfl
theorem gw1116 : Cond.instanceMethod yX6_orders ∈ GW := gw_of (i := 1116) (by decide +kernel) rfl
theorem gw1117 : Cond.selects RX6 yX6_orders yX6_orders ∈ GW := gw_of (i := 1117) (by decide +kernel) rfl
theorem gw1118 : Cond.code yX6_orders cX6_orders 1 (some .int) ∈ GW := gw_of (i := 1118) (by decide +kernel) rfl
theorem gw1119 : Cond.methodLink RL 254 yL_raised ∈ GW := gw_of (i := 1119) (by decide +kernel) rfl
theorem gw1120 : Cond.static yL_raised ∈ GW := gw_of (i := 1120) (by decide +kernel) rfl
theorem gw1121 : Cond.codeWith yL_raised cL_raised 3 (some .int) [(0, 5, 6, 53), (0, 5, 10, 28)] ∈ GW := gw_of (i := 1121) (by decide +kernel) rfl
theorem gw1122 : Cond.methodLink RL 99 yX6_raised ∈ GW := gw_of (i := 1122) (by decide +kernel) rfl
theorem gw1123 : Cond.instanceMethod yX6_raised ∈ GW := gw_of (i := 1123) (by decide +kernel) rfl
theorem gw1124 : Cond.selects RX6 yX6_raised yX6_raised ∈ GW := gw_of (i := 1124) (by decide +kernel) rfl
theorem gw1125 : Cond.code yX6_raised cX6_raised 2 (some .int) ∈ GW := gw_of (i := 1125) (by decide +kernel) rfl
theorem gw1126 : Cond.methodLink RX6 241 yX6_checkPlaceInOrder ∈ GW := gw_of (i := 1126) (by decide +kernel) rfl
theorem gw1128 : Cond.instanceMethod yX6_checkPlaceInOrder ∈ GW := gw_of (i := 1128) (by decide +kernel) rfl
theorem gw1129 : Cond.code yX6_checkPlaceInOrder cX6_checkPlaceInOrder 2 none ∈ GW := gw_of (i := 1129) (by decide +kernel) rfl
theorem gw1132 : Cond.methodLink RL 256 yL_props ∈ GW := gw_of (i := 1132) (by decide +kernel) rfl
theorem gw1133 : Cond.static yL_props ∈ GW := gw_of (i := 1133) (by decide +kernel) rfl
theorem gw1134 : Cond.codeWith yL_props cL_props 3 (some .int) [(0, 5, 6, 53), (0, 5, 10, 28)] ∈ GW := gw_of (i := 1134) (by decide +kernel) rfl
theorem gw1135 : Cond.methodLink RL 102 yX6_props ∈ GW := gw_of (i := 1135) (by decide +kernel) rfl
theorem gw1136 : Cond.instanceMethod yX6_props ∈ GW := gw_of (i := 1136) (by decide +kernel) rfl
theorem gw1137 : Cond.selects RX6 yX6_props yX6_props ∈ GW := gw_of (i := 1137) (by decide +kernel) rfl
theorem gw1138 : Cond.code yX6_props cX6_props 4 (some .int) ∈ GW := gw_of (i := 1138) (by decide +kernel) rfl
theorem gw1139 : Cond.methodLink RX6 258 yX4_propsFor ∈ GW := gw_of (i := 1139) (by decide +kernel) rfl
theorem gw1140 : Cond.methodLink RL 258 yL_stuck ∈ GW := gw_of (i := 1140) (by decide +kernel) rfl
theorem gw1141 : Cond.static yL_stuck ∈ GW := gw_of (i := 1141) (by decide +kernel) rfl
theorem gw1142 : Cond.codeWith yL_stuck cL_stuck 2 (some .int) [(0, 4, 5, 53)] ∈ GW := gw_of (i := 1142) (by decide +kernel) rfl
theorem gw1143 : Cond.methodLink RL 105 yX6_stuck ∈ GW := gw_of (i := 1143) (by decide +kernel) rfl
theorem gw1144 : Cond.instanceMethod yX6_stuck ∈ GW := gw_of (i := 1144) (by decide +kernel) rfl
theorem gw1145 : Cond.selects RX6 yX6_stuck yX6_stuck ∈ GW := gw_of (i := 1145) (by decide +kernel) rfl
theorem gw1146 : Cond.code yX6_stuck cX6_stuck 2 (some .int) ∈ GW := gw_of (i := 1146) (by decide +kernel) rfl
theorem gw1147 : Cond.methodLink RX6 261 yX4_lowestStuck ∈ GW := gw_of (i := 1147) (by decide +kernel) rfl
theorem gw1148 : Cond.instanceMethod yX4_lowestStuck ∈ GW := gw_of (i := 1148) (by decide +kernel) rfl
theorem gw1149 : Cond.selects RX4 yX4_lowestStuck yX4_lowestStuck ∈ GW := gw_of (i := 1149) (by decide +kernel) rfl
theorem gw1150 : Cond.code yX4_lowestStuck cX4_lowestStuck 3 (some .int) ∈ GW := gw_of (i := 1150) (by decide +kernel) rfl
theorem gw1152 : Cond.methodLink RL 182 yL_isThrown ∈ GW := gw_of (i := 1152) (by decide +kernel) rfl
theorem gw1153 : Cond.static yL_isThrown ∈ GW := gw_of (i := 1153) (by decide +kernel) rfl
theorem gw1154 : Cond.code yL_isThrown cL_isThrown 5 (some .boolean) ∈ GW := gw_of (i := 1154) (by decide +kernel) rfl
theorem gw1155 : Cond.methodLink RL 134 yJ0_charAt_5068e ∈ GW := gw_of (i := 1155) (by decide +kernel) rfl
theorem gw1156 : Cond.instanceMethod yJ0_charAt_5068e ∈ GW := gw_of (i := 1156) (by decide +kernel) rfl
theorem gw1157 : Cond.selects RJ0 yJ0_charAt_5068e yJ0_charAt_5068e ∈ GW := gw_of (i := 1157) (by decide +kernel) rfl
theorem gw1158 : Cond.code yJ0_charAt_5068e cJ0_charAt_5068e 2 (some .char) ∈ GW := gw_of (i := 1158) (by decide +kernel) rfl
theorem gw1159 : Cond.methodLink RJ0 495 yJ1_charAt_3b067 ∈ GW := gw_of (i := 1159) (by decide +kernel) rfl
theorem gw1160 : Cond.static yJ1_charAt_3b067 ∈ GW := gw_of (i := 1160) (by decide +kernel) rfl
theorem gw1161 : Cond.code yJ1_charAt_3b067 cJ1_charAt_3b067 2 (some .char) ∈ GW := gw_of (i := 1161) (by decide +kernel) rfl
theorem gw1162 : Cond.methodLink RJ1 9 yJ0_checkIndex_df160 ∈ GW := gw_of (i := 1162) (by decide +kernel) rfl
theorem gw1163 : Cond.static yJ0_checkIndex_df160 ∈ GW := gw_of (i := 1163) (by decide +kernel) rfl
theorem gw1164 : Cond.code yJ0_checkIndex_df160 cJ0_checkIndex_df160 2 none ∈ GW := gw_of (i := 1164) (by decide +kernel) rfl
theorem gw1165 : Cond.methodLink RJ0 1059 yJ3_checkIndex_8e157 ∈ GW := gw_of (i := 1165) (by decide +kernel) rfl
theorem gw1166 : Cond.static yJ3_checkIndex_8e157 ∈ GW := gw_of (i := 1166) (by decide +kernel) rfl
theorem gw1167 : Cond.code yJ3_checkIndex_8e157 cJ3_checkIndex_8e157 3 (some .int) ∈ GW := gw_of (i := 1167) (by decide +kernel) rfl
theorem gw1168 : Cond.methodLink RJ0 498 yJ2_charAt_3b067 ∈ GW := gw_of (i := 1168) (by decide +kernel) rfl
theorem gw1169 : Cond.static yJ2_charAt_3b067 ∈ GW := gw_of (i := 1169) (by decide +kernel) rfl
theorem gw1170 : Cond.code yJ2_charAt_3b067 cJ2_charAt_3b067 2 (some .char) ∈ GW := gw_of (i := 1170) (by decide +kernel) rfl
theorem gw1171 : Cond.methodLink RJ2 67 yJ2_checkIndex_2214a ∈ GW := gw_of (i := 1171) (by decide +kernel) rfl
theorem gw1172 : Cond.static yJ2_checkIndex_2214a ∈ GW := gw_of (i := 1172) (by decide +kernel) rfl
theorem gw1173 : Cond.code yJ2_checkIndex_2214a cJ2_checkIndex_2214a 2 none ∈ GW := gw_of (i := 1173) (by decide +kernel) rfl
theorem gw1174 : Cond.methodLink RJ2 414 yJ0_checkIndex_df160 ∈ GW := gw_of (i := 1174) (by decide +kernel) rfl
theorem gw1178 : Cond.castable RJx00060 "java/lang/IndexOutOfBoundsException" ∈ NW := nw_of (i := 1178) (by decide +kernel) rfl
theorem gw1179 : Cond.castable RX6 "java/lang/Object" ∈ NW := nw_of (i := 1179) (by decide +kernel) rfl
theorem gw1180 : Cond.castable RX2 "java/lang/Object" ∈ NW := nw_of (i := 1180) (by decide +kernel) rfl
theorem gw1181 : Cond.castable RX1 "java/lang/Object" ∈ NW := nw_of (i := 1181) (by decide +kernel) rfl
theorem gw1182 : Cond.castable RX5 "java/lang/Object" ∈ NW := nw_of (i := 1182) (by decide +kernel) rfl
theorem gw1183 : Cond.castable RX3 "java/lang/Object" ∈ NW := nw_of (i := 1183) (by decide +kernel) rfl
theorem gw1184 : Cond.castable RX0 "java/lang/Object" ∈ NW := nw_of (i := 1184) (by decide +kernel) rfl
theorem gw1185 : Cond.castable RX4 "java/lang/Object" ∈ NW := nw_of (i := 1185) (by decide +kernel) rfl
theorem gw1186 : Cond.castable "java/lang/IllegalArgumentException" "java/lang/Object" ∈ NW := nw_of (i := 1186) (by decide +kernel) rfl
theorem gw1187 : Cond.castable "java/lang/IllegalStateException" "java/lang/Object" ∈ NW := nw_of (i := 1187) (by decide +kernel) rfl
theorem gw1188 : Cond.castable RJx00060 "java/lang/Object" ∈ NW := nw_of (i := 1188) (by decide +kernel) rfl
theorem gw1189 : Cond.castable "java/lang/IndexOutOfBoundsException" "java/lang/Object" ∈ NW := nw_of (i := 1189) (by decide +kernel) rfl
theorem gw1190 : Cond.castable "java/lang/UnsupportedOperationException" "java/lang/Object" ∈ NW := nw_of (i := 1190) (by decide +kernel) rfl
theorem gw1191 : Cond.castable "java/util/NoSuchElementException" "java/lang/Object" ∈ NW := nw_of (i := 1191) (by decide +kernel) rfl
theorem gw1192 : Cond.castable "java/lang/ArithmeticException" "java/lang/Object" ∈ NW := nw_of (i := 1192) (by decide +kernel) rfl
theorem gw1193 : Cond.castable "java/lang/Throwable" "java/lang/Object" ∈ NW := nw_of (i := 1193) (by decide +kernel) rfl
theorem gw1194 : Cond.castable RJ0 "java/lang/Object" ∈ NW := nw_of (i := 1194) (by decide +kernel) rfl
theorem gw1195 : Cond.fieldLink RJ0 15 "java/lang/String" "coder" "B" ∈ GW := gw_of (i := 1195) (by decide +kernel) rfl
theorem gw1196 : Cond.fieldLink RJ0 9 "java/lang/String" "value" "[B" ∈ GW := gw_of (i := 1196) (by decide +kernel) rfl
end
section
abbrev STR : List (String × Nat × String) := [("Tenonyard", 48, "-pr"), ("Tenonyard", 58, "no such place or kind"), ("Tenonyard", 69, "no more nodes"), ("Tenonyard", 280, "no such node"), ("Tenonyard", 91, "one place, or no such breadth or grade"), ("Tenonyard", 96, "no more members"), ("Tenonyard", 104, "no such load"), ("Tenonyard", 282, "no such member"), ("Tenonyard$Joinery", 27, "udlrf"), ("Tenonyard", 157, "one member, or no such way, thickness or mark"), ("Tenonyard", 167, "no node in common, or joined already"), ("Tenonyard", 173, "no more joints"), ("Tenonyard", 286, "no such moisture"), ("Tenonyard", 208, "no such length, breadth or grade"), ("Tenonyard", 211, "no more sticks"), ("Tenonyard", 236, "no such number of props"), ("TenonyardLaw", 190, "ltc."), ("Tenonyard", 288, "the frame does not stand"), ("Tenonyard", 144, "no members"), ("Tenonyard", 136, "no such section"), ("Tenonyard", 284, "no such joint"), ("Tenonyard", 206, "no joints"), ("Tenonyard", 294, "no way to cut all members"), ("Tenonyard", 230, "no such stick"), ("Tenonyard", 296, "no order"), ("Tenonyard", 298, "no such index"), ("Tenonyard", 264, "each can be the last one"), ("TenonyardLaw", 132, "--p"), ("TenonyardLaw", 149, "udlrf")]
abbrev NCL : List (String × String) := [("java/lang/IllegalStateException", "java/lang/IllegalArgumentException"), ("java/lang/IndexOutOfBoundsException", "java/lang/IllegalArgumentException"), ("java/lang/UnsupportedOperationException", "java/lang/IllegalArgumentException"), ("java/util/NoSuchElementException", "java/lang/IllegalArgumentException"), ("java/lang/ArithmeticException", "java/lang/IllegalArgumentException"), ("java/lang/IllegalArgumentException", "java/lang/IllegalStateException"), ("java/lang/IndexOutOfBoundsException", "java/lang/IllegalStateException"), ("java/lang/UnsupportedOperationException", "java/lang/IllegalStateException"), ("java/util/NoSuchElementException", "java/lang/IllegalStateException"), ("java/lang/ArithmeticException", "java/lang/IllegalStateException"), ("java/lang/IllegalArgumentException", "java/lang/IndexOutOfBoundsException"), ("java/lang/IllegalStateException", "java/lang/IndexOutOfBoundsException"), ("java/lang/UnsupportedOperationException", "java/lang/IndexOutOfBoundsException"), ("java/util/NoSuchElementException", "java/lang/IndexOutOfBoundsException"), ("java/lang/ArithmeticException", "java/lang/IndexOutOfBoundsException"), ("java/lang/IllegalArgumentException", "java/lang/UnsupportedOperationException"), ("java/lang/IllegalStateException", "java/lang/UnsupportedOperationException"), ("java/lang/IndexOutOfBoundsException", "java/lang/UnsupportedOperationException"), ("java/util/NoSuchElementException", "java/lang/UnsupportedOperationException"), ("java/lang/ArithmeticException", "java/lang/UnsupportedOperationException"), ("java/lang/IllegalArgumentException", "java/util/NoSuchElementException"), ("java/lang/IllegalStateException", "java/util/NoSuchElementException"), ("java/lang/IndexOutOfBoundsException", "java/util/NoSuchElementException"), ("java/lang/UnsupportedOperationException", "java/util/NoSuchElementException"), ("java/lang/ArithmeticException", "java/util/NoSuchElementException"), ("java/lang/IllegalArgumentException", "java/lang/ArithmeticException"), ("java/lang/IllegalStateException", "java/lang/ArithmeticException"), ("java/lang/IndexOutOfBoundsException", "java/lang/ArithmeticException"), ("java/lang/UnsupportedOperationException", "java/lang/ArithmeticException"), ("java/util/NoSuchElementException", "java/lang/ArithmeticException")]
def SC : List (Nat × Nat × List Int32) := [(0, 3, [45, 112, 114]), (8, 5, [117, 100, 108, 114, 102]), (16, 4, [108, 116, 99, 46]), (27, 3, [45, 45, 112]), (28, 5, [117, 100, 108, 114, 102])]
/-! the state of the yard: fields of ints, of longs, arrays of ints (chars, booleans), of longs -/
abbrev Sg : Type := (Nat → Int32) × (Nat → Int64) × (Nat → Nat → Int32) × (Nat → Nat → Int64)
def gI (σ : Sg) (k : Nat) : Int32 := σ.1 k
def gL (σ : Sg) (k : Nat) : Int64 := σ.2.1 k
def gA (σ : Sg) (k : Nat) : Nat → Int32 := σ.2.2.1 k
def gB (σ : Sg) (k : Nat) : Nat → Int64 := σ.2.2.2 k
def sI (σ : Sg) (k : Nat) (v : Int32) : Sg := (fun q => if q = k then v else σ.1 q, σ.2)
def sL (σ : Sg) (k : Nat) (v : Int64) : Sg := (σ.1, fun q => if q = k then v else σ.2.1 q, σ.2.2)
def sA (σ : Sg) (k j : Nat) (v : Int32) : Sg := (σ.1, σ.2.1, fun q => if q = k then upd (σ.2.2.1 k) j v else σ.2.2.1 q, σ.2.2.2)
def sB (σ : Sg) (k j : Nat) (v : Int64) : Sg := (σ.1, σ.2.1, σ.2.2.1, fun q => if q = k then vp_updL (σ.2.2.2 k) j v else σ.2.2.2 q)
abbrev ix (i : Int32) : Nat := i.toNatClampNeg
def sby (l : List Int32) (i : Int32) : Int32 := l.getD (ix i) 0
def WL (ad : Nat → Nat) (cA : Nat → ClassId) (σ : Sg) : va_W := [
  (ad 0, .inr (8, [.ref (ad 1), .ref (ad 12), .ref (ad 32), .ref (ad 38), .ref (ad 46)])),
  (ad 1, .inr (4, [.int (gI σ 0), .int (gI σ 1), .ref (ad 2), .ref (ad 3), .ref (ad 4), .ref (ad 5), .ref (ad 6), .ref (ad 7), .ref (ad 8), .ref (ad 9), .ref (ad 10), .ref (ad 11)])),
  (ad 2, .inl (cA 0, 16, .inl (gA σ 0))),
  (ad 3, .inl (cA 0, 16, .inl (gA σ 1))),
  (ad 4, .inl (cA 0, 8, .inl (gA σ 2))),
  (ad 5, .inl (cA 2, 8, .inl (gA σ 3))),
  (ad 6, .inl (cA 0, 9, .inl (gA σ 4))),
  (ad 7, .inl (cA 0, 9, .inl (gA σ 5))),
  (ad 8, .inl (cA 0, 9, .inl (gA σ 6))),
  (ad 9, .inl (cA 0, 9, .inl (gA σ 7))),
  (ad 10, .inl (cA 0, 9, .inl (gA σ 8))),
  (ad 11, .inl (cA 0, 9, .inl (gA σ 9))),
  (ad 12, .inr (3, [.int (gI σ 2), .int (gI σ 3), .long (gL σ 0), .ref (ad 13), .ref (ad 14), .ref (ad 15), .ref (ad 16), .ref (ad 17), .ref (ad 18), .ref (ad 19), .ref (ad 20), .ref (ad 21), .ref (ad 22), .ref (ad 24), .ref (ad 26), .ref (ad 28), .ref (ad 30)])),
  (ad 13, .inl (cA 1, 25, .inr (.inl (gB σ 0)))),
  (ad 14, .inl (cA 1, 25, .inr (.inl (gB σ 1)))),
  (ad 15, .inl (cA 1, 9, .inr (.inl (gB σ 2)))),
  (ad 16, .inl (cA 0, 81, .inl (gA σ 10))),
  (ad 17, .inl (cA 0, 9, .inl (gA σ 11))),
  (ad 18, .inl (cA 0, 9, .inl (gA σ 12))),
  (ad 19, .inl (cA 1, 512, .inr (.inl (gB σ 3)))),
  (ad 20, .inl (cA 1, 512, .inr (.inl (gB σ 4)))),
  (ad 21, .inl (cA 1, 512, .inr (.inl (gB σ 5)))),
  (ad 22, .inr (7, [.ref (ad 23)])),
  (ad 23, .inl (cA 1, 8, .inr (.inl (gB σ 6)))),
  (ad 24, .inr (7, [.ref (ad 25)])),
  (ad 25, .inl (cA 1, 8, .inr (.inl (gB σ 7)))),
  (ad 26, .inr (7, [.ref (ad 27)])),
  (ad 27, .inl (cA 1, 8, .inr (.inl (gB σ 8)))),
  (ad 28, .inr (7, [.ref (ad 29)])),
  (ad 29, .inl (cA 1, 8, .inr (.inl (gB σ 9)))),
  (ad 30, .inr (7, [.ref (ad 31)])),
  (ad 31, .inl (cA 1, 8, .inr (.inl (gB σ 10)))),
  (ad 32, .inr (5, [.int (gI σ 4), .ref (ad 33), .ref (ad 34), .ref (ad 35), .ref (ad 36), .ref (ad 37)])),
  (ad 33, .inl (cA 0, 12, .inl (gA σ 13))),
  (ad 34, .inl (cA 0, 12, .inl (gA σ 14))),
  (ad 35, .inl (cA 0, 12, .inl (gA σ 15))),
  (ad 36, .inl (cA 0, 12, .inl (gA σ 16))),
  (ad 37, .inl (cA 0, 12, .inl (gA σ 17))),
  (ad 38, .inr (2, [.int (gI σ 5), .int (gI σ 6), .int (gI σ 7), .int (gI σ 8), .ref (ad 39), .ref (ad 40), .ref (ad 41), .ref (ad 42), .ref (ad 43), .ref (ad 44), .ref (ad 45)])),
  (ad 39, .inl (cA 0, 9, .inl (gA σ 18))),
  (ad 40, .inl (cA 0, 5, .inl (gA σ 19))),
  (ad 41, .inl (cA 0, 5, .inl (gA σ 20))),
  (ad 42, .inl (cA 0, 5, .inl (gA σ 21))),
  (ad 43, .inl (cA 0, 512, .inl (gA σ 22))),
  (ad 44, .inl (cA 0, 512, .inl (gA σ 23))),
  (ad 45, .inl (cA 1, 512, .inr (.inl (gB σ 11)))),
  (ad 46, .inr (6, [.int (gI σ 9), .int (gI σ 10), .int (gI σ 11), .int (gI σ 12), .ref (ad 47), .ref (ad 48), .ref (ad 49), .ref (ad 50), .ref (ad 51)])),
  (ad 47, .inl (cA 0, 45, .inl (gA σ 24))),
  (ad 48, .inl (cA 0, 9, .inl (gA σ 25))),
  (ad 49, .inl (cA 0, 512, .inl (gA σ 26))),
  (ad 50, .inl (cA 3, 512, .inl (gA σ 27))),
  (ad 51, .inl (cA 0, 9, .inl (gA σ 28)))]
theorem wl_0 {ad : Nat → Nat} {cA : Nat → ClassId} {σ : Sg} : (WL ad cA σ)[0]? = some (ad 0, .inr (8, [.ref (ad 1), .ref (ad 12), .ref (ad 32), .ref (ad 38), .ref (ad 46)])) := rfl
theorem wl_1 {ad : Nat → Nat} {cA : Nat → ClassId} {σ : Sg} : (WL ad cA σ)[1]? = some (ad 1, .inr (4, [.int (gI σ 0), .int (gI σ 1), .ref (ad 2), .ref (ad 3), .ref (ad 4), .ref (ad 5), .ref (ad 6), .ref (ad 7), .ref (ad 8), .ref (ad 9), .ref (ad 10), .ref (ad 11)])) := rfl
theorem wl_2 {ad : Nat → Nat} {cA : Nat → ClassId} {σ : Sg} : (WL ad cA σ)[2]? = some (ad 2, .inl (cA 0, 16, .inl (gA σ 0))) := rfl
theorem wl_3 {ad : Nat → Nat} {cA : Nat → ClassId} {σ : Sg} : (WL ad cA σ)[3]? = some (ad 3, .inl (cA 0, 16, .inl (gA σ 1))) := rfl
theorem wl_4 {ad : Nat → Nat} {cA : Nat → ClassId} {σ : Sg} : (WL ad cA σ)[4]? = some (ad 4, .inl (cA 0, 8, .inl (gA σ 2))) := rfl
theorem wl_5 {ad : Nat → Nat} {cA : Nat → ClassId} {σ : Sg} : (WL ad cA σ)[5]? = some (ad 5, .inl (cA 2, 8, .inl (gA σ 3))) := rfl
theorem wl_6 {ad : Nat → Nat} {cA : Nat → ClassId} {σ : Sg} : (WL ad cA σ)[6]? = some (ad 6, .inl (cA 0, 9, .inl (gA σ 4))) := rfl
theorem wl_7 {ad : Nat → Nat} {cA : Nat → ClassId} {σ : Sg} : (WL ad cA σ)[7]? = some (ad 7, .inl (cA 0, 9, .inl (gA σ 5))) := rfl
theorem wl_8 {ad : Nat → Nat} {cA : Nat → ClassId} {σ : Sg} : (WL ad cA σ)[8]? = some (ad 8, .inl (cA 0, 9, .inl (gA σ 6))) := rfl
theorem wl_9 {ad : Nat → Nat} {cA : Nat → ClassId} {σ : Sg} : (WL ad cA σ)[9]? = some (ad 9, .inl (cA 0, 9, .inl (gA σ 7))) := rfl
theorem wl_10 {ad : Nat → Nat} {cA : Nat → ClassId} {σ : Sg} : (WL ad cA σ)[10]? = some (ad 10, .inl (cA 0, 9, .inl (gA σ 8))) := rfl
theorem wl_11 {ad : Nat → Nat} {cA : Nat → ClassId} {σ : Sg} : (WL ad cA σ)[11]? = some (ad 11, .inl (cA 0, 9, .inl (gA σ 9))) := rfl
theorem wl_12 {ad : Nat → Nat} {cA : Nat → ClassId} {σ : Sg} : (WL ad cA σ)[12]? = some (ad 12, .inr (3, [.int (gI σ 2), .int (gI σ 3), .long (gL σ 0), .ref (ad 13), .ref (ad 14), .ref (ad 15), .ref (ad 16), .ref (ad 17), .ref (ad 18), .ref (ad 19), .ref (ad 20), .ref (ad 21), .ref (ad 22), .ref (ad 24), .ref (ad 26), .ref (ad 28), .ref (ad 30)])) := rfl
theorem wl_13 {ad : Nat → Nat} {cA : Nat → ClassId} {σ : Sg} : (WL ad cA σ)[13]? = some (ad 13, .inl (cA 1, 25, .inr (.inl (gB σ 0)))) := rfl
theorem wl_14 {ad : Nat → Nat} {cA : Nat → ClassId} {σ : Sg} : (WL ad cA σ)[14]? = some (ad 14, .inl (cA 1, 25, .inr (.inl (gB σ 1)))) := rfl
theorem wl_15 {ad : Nat → Nat} {cA : Nat → ClassId} {σ : Sg} : (WL ad cA σ)[15]? = some (ad 15, .inl (cA 1, 9, .inr (.inl (gB σ 2)))) := rfl
theorem wl_16 {ad : Nat → Nat} {cA : Nat → ClassId} {σ : Sg} : (WL ad cA σ)[16]? = some (ad 16, .inl (cA 0, 81, .inl (gA σ 10))) := rfl
theorem wl_17 {ad : Nat → Nat} {cA : Nat → ClassId} {σ : Sg} : (WL ad cA σ)[17]? = some (ad 17, .inl (cA 0, 9, .inl (gA σ 11))) := rfl
theorem wl_18 {ad : Nat → Nat} {cA : Nat → ClassId} {σ : Sg} : (WL ad cA σ)[18]? = some (ad 18, .inl (cA 0, 9, .inl (gA σ 12))) := rfl
theorem wl_19 {ad : Nat → Nat} {cA : Nat → ClassId} {σ : Sg} : (WL ad cA σ)[19]? = some (ad 19, .inl (cA 1, 512, .inr (.inl (gB σ 3)))) := rfl
theorem wl_20 {ad : Nat → Nat} {cA : Nat → ClassId} {σ : Sg} : (WL ad cA σ)[20]? = some (ad 20, .inl (cA 1, 512, .inr (.inl (gB σ 4)))) := rfl
theorem wl_21 {ad : Nat → Nat} {cA : Nat → ClassId} {σ : Sg} : (WL ad cA σ)[21]? = some (ad 21, .inl (cA 1, 512, .inr (.inl (gB σ 5)))) := rfl
theorem wl_22 {ad : Nat → Nat} {cA : Nat → ClassId} {σ : Sg} : (WL ad cA σ)[22]? = some (ad 22, .inr (7, [.ref (ad 23)])) := rfl
theorem wl_23 {ad : Nat → Nat} {cA : Nat → ClassId} {σ : Sg} : (WL ad cA σ)[23]? = some (ad 23, .inl (cA 1, 8, .inr (.inl (gB σ 6)))) := rfl
theorem wl_24 {ad : Nat → Nat} {cA : Nat → ClassId} {σ : Sg} : (WL ad cA σ)[24]? = some (ad 24, .inr (7, [.ref (ad 25)])) := rfl
theorem wl_25 {ad : Nat → Nat} {cA : Nat → ClassId} {σ : Sg} : (WL ad cA σ)[25]? = some (ad 25, .inl (cA 1, 8, .inr (.inl (gB σ 7)))) := rfl
theorem wl_26 {ad : Nat → Nat} {cA : Nat → ClassId} {σ : Sg} : (WL ad cA σ)[26]? = some (ad 26, .inr (7, [.ref (ad 27)])) := rfl
theorem wl_27 {ad : Nat → Nat} {cA : Nat → ClassId} {σ : Sg} : (WL ad cA σ)[27]? = some (ad 27, .inl (cA 1, 8, .inr (.inl (gB σ 8)))) := rfl
theorem wl_28 {ad : Nat → Nat} {cA : Nat → ClassId} {σ : Sg} : (WL ad cA σ)[28]? = some (ad 28, .inr (7, [.ref (ad 29)])) := rfl
theorem wl_29 {ad : Nat → Nat} {cA : Nat → ClassId} {σ : Sg} : (WL ad cA σ)[29]? = some (ad 29, .inl (cA 1, 8, .inr (.inl (gB σ 9)))) := rfl
theorem wl_30 {ad : Nat → Nat} {cA : Nat → ClassId} {σ : Sg} : (WL ad cA σ)[30]? = some (ad 30, .inr (7, [.ref (ad 31)])) := rfl
theorem wl_31 {ad : Nat → Nat} {cA : Nat → ClassId} {σ : Sg} : (WL ad cA σ)[31]? = some (ad 31, .inl (cA 1, 8, .inr (.inl (gB σ 10)))) := rfl
theorem wl_32 {ad : Nat → Nat} {cA : Nat → ClassId} {σ : Sg} : (WL ad cA σ)[32]? = some (ad 32, .inr (5, [.int (gI σ 4), .ref (ad 33), .ref (ad 34), .ref (ad 35), .ref (ad 36), .ref (ad 37)])) := rfl
theorem wl_33 {ad : Nat → Nat} {cA : Nat → ClassId} {σ : Sg} : (WL ad cA σ)[33]? = some (ad 33, .inl (cA 0, 12, .inl (gA σ 13))) := rfl
theorem wl_34 {ad : Nat → Nat} {cA : Nat → ClassId} {σ : Sg} : (WL ad cA σ)[34]? = some (ad 34, .inl (cA 0, 12, .inl (gA σ 14))) := rfl
theorem wl_35 {ad : Nat → Nat} {cA : Nat → ClassId} {σ : Sg} : (WL ad cA σ)[35]? = some (ad 35, .inl (cA 0, 12, .inl (gA σ 15))) := rfl
theorem wl_36 {ad : Nat → Nat} {cA : Nat → ClassId} {σ : Sg} : (WL ad cA σ)[36]? = some (ad 36, .inl (cA 0, 12, .inl (gA σ 16))) := rfl
theorem wl_37 {ad : Nat → Nat} {cA : Nat → ClassId} {σ : Sg} : (WL ad cA σ)[37]? = some (ad 37, .inl (cA 0, 12, .inl (gA σ 17))) := rfl
theorem wl_38 {ad : Nat → Nat} {cA : Nat → ClassId} {σ : Sg} : (WL ad cA σ)[38]? = some (ad 38, .inr (2, [.int (gI σ 5), .int (gI σ 6), .int (gI σ 7), .int (gI σ 8), .ref (ad 39), .ref (ad 40), .ref (ad 41), .ref (ad 42), .ref (ad 43), .ref (ad 44), .ref (ad 45)])) := rfl
theorem wl_39 {ad : Nat → Nat} {cA : Nat → ClassId} {σ : Sg} : (WL ad cA σ)[39]? = some (ad 39, .inl (cA 0, 9, .inl (gA σ 18))) := rfl
theorem wl_40 {ad : Nat → Nat} {cA : Nat → ClassId} {σ : Sg} : (WL ad cA σ)[40]? = some (ad 40, .inl (cA 0, 5, .inl (gA σ 19))) := rfl
theorem wl_41 {ad : Nat → Nat} {cA : Nat → ClassId} {σ : Sg} : (WL ad cA σ)[41]? = some (ad 41, .inl (cA 0, 5, .inl (gA σ 20))) := rfl
theorem wl_42 {ad : Nat → Nat} {cA : Nat → ClassId} {σ : Sg} : (WL ad cA σ)[42]? = some (ad 42, .inl (cA 0, 5, .inl (gA σ 21))) := rfl
theorem wl_43 {ad : Nat → Nat} {cA : Nat → ClassId} {σ : Sg} : (WL ad cA σ)[43]? = some (ad 43, .inl (cA 0, 512, .inl (gA σ 22))) := rfl
theorem wl_44 {ad : Nat → Nat} {cA : Nat → ClassId} {σ : Sg} : (WL ad cA σ)[44]? = some (ad 44, .inl (cA 0, 512, .inl (gA σ 23))) := rfl
theorem wl_45 {ad : Nat → Nat} {cA : Nat → ClassId} {σ : Sg} : (WL ad cA σ)[45]? = some (ad 45, .inl (cA 1, 512, .inr (.inl (gB σ 11)))) := rfl
theorem wl_46 {ad : Nat → Nat} {cA : Nat → ClassId} {σ : Sg} : (WL ad cA σ)[46]? = some (ad 46, .inr (6, [.int (gI σ 9), .int (gI σ 10), .int (gI σ 11), .int (gI σ 12), .ref (ad 47), .ref (ad 48), .ref (ad 49), .ref (ad 50), .ref (ad 51)])) := rfl
theorem wl_47 {ad : Nat → Nat} {cA : Nat → ClassId} {σ : Sg} : (WL ad cA σ)[47]? = some (ad 47, .inl (cA 0, 45, .inl (gA σ 24))) := rfl
theorem wl_48 {ad : Nat → Nat} {cA : Nat → ClassId} {σ : Sg} : (WL ad cA σ)[48]? = some (ad 48, .inl (cA 0, 9, .inl (gA σ 25))) := rfl
theorem wl_49 {ad : Nat → Nat} {cA : Nat → ClassId} {σ : Sg} : (WL ad cA σ)[49]? = some (ad 49, .inl (cA 0, 512, .inl (gA σ 26))) := rfl
theorem wl_50 {ad : Nat → Nat} {cA : Nat → ClassId} {σ : Sg} : (WL ad cA σ)[50]? = some (ad 50, .inl (cA 3, 512, .inl (gA σ 27))) := rfl
theorem wl_51 {ad : Nat → Nat} {cA : Nat → ClassId} {σ : Sg} : (WL ad cA σ)[51]? = some (ad 51, .inl (cA 0, 9, .inl (gA σ 28))) := rfl
theorem ws_1_0 {ad : Nat → Nat} {cA : Nat → ClassId} {σ τ : Sg} {v : Int32} (e : τ = sI σ 0 v) : (WL ad cA σ).set 1 (ad 1, .inr (4, ([.int (gI σ 0), .int (gI σ 1), .ref (ad 2), .ref (ad 3), .ref (ad 4), .ref (ad 5), .ref (ad 6), .ref (ad 7), .ref (ad 8), .ref (ad 9), .ref (ad 10), .ref (ad 11)] : List Value).set 0 (.int v))) = WL ad cA τ := by subst e; rfl
theorem ws_1_1 {ad : Nat → Nat} {cA : Nat → ClassId} {σ τ : Sg} {v : Int32} (e : τ = sI σ 1 v) : (WL ad cA σ).set 1 (ad 1, .inr (4, ([.int (gI σ 0), .int (gI σ 1), .ref (ad 2), .ref (ad 3), .ref (ad 4), .ref (ad 5), .ref (ad 6), .ref (ad 7), .ref (ad 8), .ref (ad 9), .ref (ad 10), .ref (ad 11)] : List Value).set 1 (.int v))) = WL ad cA τ := by subst e; rfl
theorem ws_2 {ad : Nat → Nat} {cA : Nat → ClassId} {σ τ : Sg} {i : Int32} {v : Int32} (e : τ = sA σ 0 (ix i) v) : (WL ad cA σ).set 2 (ad 2, .inl (cA 0, 16, .inl (upd (gA σ 0) i.toNatClampNeg v))) = WL ad cA τ := by subst e; rfl
theorem ws_3 {ad : Nat → Nat} {cA : Nat → ClassId} {σ τ : Sg} {i : Int32} {v : Int32} (e : τ = sA σ 1 (ix i) v) : (WL ad cA σ).set 3 (ad 3, .inl (cA 0, 16, .inl (upd (gA σ 1) i.toNatClampNeg v))) = WL ad cA τ := by subst e; rfl
theorem ws_4 {ad : Nat → Nat} {cA : Nat → ClassId} {σ τ : Sg} {i : Int32} {v : Int32} (e : τ = sA σ 2 (ix i) v) : (WL ad cA σ).set 4 (ad 4, .inl (cA 0, 8, .inl (upd (gA σ 2) i.toNatClampNeg v))) = WL ad cA τ := by subst e; rfl
theorem ws_5 {ad : Nat → Nat} {cA : Nat → ClassId} {σ τ : Sg} {i : Int32} {v : Int32} (e : τ = sA σ 3 (ix i) v) : (WL ad cA σ).set 5 (ad 5, .inl (cA 2, 8, .inl (upd (gA σ 3) i.toNatClampNeg v))) = WL ad cA τ := by subst e; rfl
theorem ws_6 {ad : Nat → Nat} {cA : Nat → ClassId} {σ τ : Sg} {i : Int32} {v : Int32} (e : τ = sA σ 4 (ix i) v) : (WL ad cA σ).set 6 (ad 6, .inl (cA 0, 9, .inl (upd (gA σ 4) i.toNatClampNeg v))) = WL ad cA τ := by subst e; rfl
theorem ws_7 {ad : Nat → Nat} {cA : Nat → ClassId} {σ τ : Sg} {i : Int32} {v : Int32} (e : τ = sA σ 5 (ix i) v) : (WL ad cA σ).set 7 (ad 7, .inl (cA 0, 9, .inl (upd (gA σ 5) i.toNatClampNeg v))) = WL ad cA τ := by subst e; rfl
theorem ws_8 {ad : Nat → Nat} {cA : Nat → ClassId} {σ τ : Sg} {i : Int32} {v : Int32} (e : τ = sA σ 6 (ix i) v) : (WL ad cA σ).set 8 (ad 8, .inl (cA 0, 9, .inl (upd (gA σ 6) i.toNatClampNeg v))) = WL ad cA τ := by subst e; rfl
theorem ws_9 {ad : Nat → Nat} {cA : Nat → ClassId} {σ τ : Sg} {i : Int32} {v : Int32} (e : τ = sA σ 7 (ix i) v) : (WL ad cA σ).set 9 (ad 9, .inl (cA 0, 9, .inl (upd (gA σ 7) i.toNatClampNeg v))) = WL ad cA τ := by subst e; rfl
theorem ws_10 {ad : Nat → Nat} {cA : Nat → ClassId} {σ τ : Sg} {i : Int32} {v : Int32} (e : τ = sA σ 8 (ix i) v) : (WL ad cA σ).set 10 (ad 10, .inl (cA 0, 9, .inl (upd (gA σ 8) i.toNatClampNeg v))) = WL ad cA τ := by subst e; rfl
theorem ws_11 {ad : Nat → Nat} {cA : Nat → ClassId} {σ τ : Sg} {i : Int32} {v : Int32} (e : τ = sA σ 9 (ix i) v) : (WL ad cA σ).set 11 (ad 11, .inl (cA 0, 9, .inl (upd (gA σ 9) i.toNatClampNeg v))) = WL ad cA τ := by subst e; rfl
theorem ws_12_0 {ad : Nat → Nat} {cA : Nat → ClassId} {σ τ : Sg} {v : Int32} (e : τ = sI σ 2 v) : (WL ad cA σ).set 12 (ad 12, .inr (3, ([.int (gI σ 2), .int (gI σ 3), .long (gL σ 0), .ref (ad 13), .ref (ad 14), .ref (ad 15), .ref (ad 16), .ref (ad 17), .ref (ad 18), .ref (ad 19), .ref (ad 20), .ref (ad 21), .ref (ad 22), .ref (ad 24), .ref (ad 26), .ref (ad 28), .ref (ad 30)] : List Value).set 0 (.int v))) = WL ad cA τ := by subst e; rfl
theorem ws_12_1 {ad : Nat → Nat} {cA : Nat → ClassId} {σ τ : Sg} {v : Int32} (e : τ = sI σ 3 v) : (WL ad cA σ).set 12 (ad 12, .inr (3, ([.int (gI σ 2), .int (gI σ 3), .long (gL σ 0), .ref (ad 13), .ref (ad 14), .ref (ad 15), .ref (ad 16), .ref (ad 17), .ref (ad 18), .ref (ad 19), .ref (ad 20), .ref (ad 21), .ref (ad 22), .ref (ad 24), .ref (ad 26), .ref (ad 28), .ref (ad 30)] : List Value).set 1 (.int v))) = WL ad cA τ := by subst e; rfl
theorem ws_12_2 {ad : Nat → Nat} {cA : Nat → ClassId} {σ τ : Sg} {v : Int64} (e : τ = sL σ 0 v) : (WL ad cA σ).set 12 (ad 12, .inr (3, ([.int (gI σ 2), .int (gI σ 3), .long (gL σ 0), .ref (ad 13), .ref (ad 14), .ref (ad 15), .ref (ad 16), .ref (ad 17), .ref (ad 18), .ref (ad 19), .ref (ad 20), .ref (ad 21), .ref (ad 22), .ref (ad 24), .ref (ad 26), .ref (ad 28), .ref (ad 30)] : List Value).set 2 (.long v))) = WL ad cA τ := by subst e; rfl
theorem ws_13 {ad : Nat → Nat} {cA : Nat → ClassId} {σ τ : Sg} {i : Int32} {v : Int64} (e : τ = sB σ 0 (ix i) v) : (WL ad cA σ).set 13 (ad 13, .inl (cA 1, 25, .inr (.inl (vp_updL (gB σ 0) i.toNatClampNeg v)))) = WL ad cA τ := by subst e; rfl
theorem ws_14 {ad : Nat → Nat} {cA : Nat → ClassId} {σ τ : Sg} {i : Int32} {v : Int64} (e : τ = sB σ 1 (ix i) v) : (WL ad cA σ).set 14 (ad 14, .inl (cA 1, 25, .inr (.inl (vp_updL (gB σ 1) i.toNatClampNeg v)))) = WL ad cA τ := by subst e; rfl
theorem ws_15 {ad : Nat → Nat} {cA : Nat → ClassId} {σ τ : Sg} {i : Int32} {v : Int64} (e : τ = sB σ 2 (ix i) v) : (WL ad cA σ).set 15 (ad 15, .inl (cA 1, 9, .inr (.inl (vp_updL (gB σ 2) i.toNatClampNeg v)))) = WL ad cA τ := by subst e; rfl
theorem ws_16 {ad : Nat → Nat} {cA : Nat → ClassId} {σ τ : Sg} {i : Int32} {v : Int32} (e : τ = sA σ 10 (ix i) v) : (WL ad cA σ).set 16 (ad 16, .inl (cA 0, 81, .inl (upd (gA σ 10) i.toNatClampNeg v))) = WL ad cA τ := by subst e; rfl
theorem ws_17 {ad : Nat → Nat} {cA : Nat → ClassId} {σ τ : Sg} {i : Int32} {v : Int32} (e : τ = sA σ 11 (ix i) v) : (WL ad cA σ).set 17 (ad 17, .inl (cA 0, 9, .inl (upd (gA σ 11) i.toNatClampNeg v))) = WL ad cA τ := by subst e; rfl
theorem ws_18 {ad : Nat → Nat} {cA : Nat → ClassId} {σ τ : Sg} {i : Int32} {v : Int32} (e : τ = sA σ 12 (ix i) v) : (WL ad cA σ).set 18 (ad 18, .inl (cA 0, 9, .inl (upd (gA σ 12) i.toNatClampNeg v))) = WL ad cA τ := by subst e; rfl
theorem ws_19 {ad : Nat → Nat} {cA : Nat → ClassId} {σ τ : Sg} {i : Int32} {v : Int64} (e : τ = sB σ 3 (ix i) v) : (WL ad cA σ).set 19 (ad 19, .inl (cA 1, 512, .inr (.inl (vp_updL (gB σ 3) i.toNatClampNeg v)))) = WL ad cA τ := by subst e; rfl
theorem ws_20 {ad : Nat → Nat} {cA : Nat → ClassId} {σ τ : Sg} {i : Int32} {v : Int64} (e : τ = sB σ 4 (ix i) v) : (WL ad cA σ).set 20 (ad 20, .inl (cA 1, 512, .inr (.inl (vp_updL (gB σ 4) i.toNatClampNeg v)))) = WL ad cA τ := by subst e; rfl
theorem ws_21 {ad : Nat → Nat} {cA : Nat → ClassId} {σ τ : Sg} {i : Int32} {v : Int64} (e : τ = sB σ 5 (ix i) v) : (WL ad cA σ).set 21 (ad 21, .inl (cA 1, 512, .inr (.inl (vp_updL (gB σ 5) i.toNatClampNeg v)))) = WL ad cA τ := by subst e; rfl
theorem ws_23 {ad : Nat → Nat} {cA : Nat → ClassId} {σ τ : Sg} {i : Int32} {v : Int64} (e : τ = sB σ 6 (ix i) v) : (WL ad cA σ).set 23 (ad 23, .inl (cA 1, 8, .inr (.inl (vp_updL (gB σ 6) i.toNatClampNeg v)))) = WL ad cA τ := by subst e; rfl
theorem ws_25 {ad : Nat → Nat} {cA : Nat → ClassId} {σ τ : Sg} {i : Int32} {v : Int64} (e : τ = sB σ 7 (ix i) v) : (WL ad cA σ).set 25 (ad 25, .inl (cA 1, 8, .inr (.inl (vp_updL (gB σ 7) i.toNatClampNeg v)))) = WL ad cA τ := by subst e; rfl
theorem ws_27 {ad : Nat → Nat} {cA : Nat → ClassId} {σ τ : Sg} {i : Int32} {v : Int64} (e : τ = sB σ 8 (ix i) v) : (WL ad cA σ).set 27 (ad 27, .inl (cA 1, 8, .inr (.inl (vp_updL (gB σ 8) i.toNatClampNeg v)))) = WL ad cA τ := by subst e; rfl
theorem ws_29 {ad : Nat → Nat} {cA : Nat → ClassId} {σ τ : Sg} {i : Int32} {v : Int64} (e : τ = sB σ 9 (ix i) v) : (WL ad cA σ).set 29 (ad 29, .inl (cA 1, 8, .inr (.inl (vp_updL (gB σ 9) i.toNatClampNeg v)))) = WL ad cA τ := by subst e; rfl
theorem ws_31 {ad : Nat → Nat} {cA : Nat → ClassId} {σ τ : Sg} {i : Int32} {v : Int64} (e : τ = sB σ 10 (ix i) v) : (WL ad cA σ).set 31 (ad 31, .inl (cA 1, 8, .inr (.inl (vp_updL (gB σ 10) i.toNatClampNeg v)))) = WL ad cA τ := by subst e; rfl
theorem ws_32_0 {ad : Nat → Nat} {cA : Nat → ClassId} {σ τ : Sg} {v : Int32} (e : τ = sI σ 4 v) : (WL ad cA σ).set 32 (ad 32, .inr (5, ([.int (gI σ 4), .ref (ad 33), .ref (ad 34), .ref (ad 35), .ref (ad 36), .ref (ad 37)] : List Value).set 0 (.int v))) = WL ad cA τ := by subst e; rfl
theorem ws_33 {ad : Nat → Nat} {cA : Nat → ClassId} {σ τ : Sg} {i : Int32} {v : Int32} (e : τ = sA σ 13 (ix i) v) : (WL ad cA σ).set 33 (ad 33, .inl (cA 0, 12, .inl (upd (gA σ 13) i.toNatClampNeg v))) = WL ad cA τ := by subst e; rfl
theorem ws_34 {ad : Nat → Nat} {cA : Nat → ClassId} {σ τ : Sg} {i : Int32} {v : Int32} (e : τ = sA σ 14 (ix i) v) : (WL ad cA σ).set 34 (ad 34, .inl (cA 0, 12, .inl (upd (gA σ 14) i.toNatClampNeg v))) = WL ad cA τ := by subst e; rfl
theorem ws_35 {ad : Nat → Nat} {cA : Nat → ClassId} {σ τ : Sg} {i : Int32} {v : Int32} (e : τ = sA σ 15 (ix i) v) : (WL ad cA σ).set 35 (ad 35, .inl (cA 0, 12, .inl (upd (gA σ 15) i.toNatClampNeg v))) = WL ad cA τ := by subst e; rfl
theorem ws_36 {ad : Nat → Nat} {cA : Nat → ClassId} {σ τ : Sg} {i : Int32} {v : Int32} (e : τ = sA σ 16 (ix i) v) : (WL ad cA σ).set 36 (ad 36, .inl (cA 0, 12, .inl (upd (gA σ 16) i.toNatClampNeg v))) = WL ad cA τ := by subst e; rfl
theorem ws_37 {ad : Nat → Nat} {cA : Nat → ClassId} {σ τ : Sg} {i : Int32} {v : Int32} (e : τ = sA σ 17 (ix i) v) : (WL ad cA σ).set 37 (ad 37, .inl (cA 0, 12, .inl (upd (gA σ 17) i.toNatClampNeg v))) = WL ad cA τ := by subst e; rfl
theorem ws_38_0 {ad : Nat → Nat} {cA : Nat → ClassId} {σ τ : Sg} {v : Int32} (e : τ = sI σ 5 v) : (WL ad cA σ).set 38 (ad 38, .inr (2, ([.int (gI σ 5), .int (gI σ 6), .int (gI σ 7), .int (gI σ 8), .ref (ad 39), .ref (ad 40), .ref (ad 41), .ref (ad 42), .ref (ad 43), .ref (ad 44), .ref (ad 45)] : List Value).set 0 (.int v))) = WL ad cA τ := by subst e; rfl
theorem ws_38_1 {ad : Nat → Nat} {cA : Nat → ClassId} {σ τ : Sg} {v : Int32} (e : τ = sI σ 6 v) : (WL ad cA σ).set 38 (ad 38, .inr (2, ([.int (gI σ 5), .int (gI σ 6), .int (gI σ 7), .int (gI σ 8), .ref (ad 39), .ref (ad 40), .ref (ad 41), .ref (ad 42), .ref (ad 43), .ref (ad 44), .ref (ad 45)] : List Value).set 1 (.int v))) = WL ad cA τ := by subst e; rfl
theorem ws_38_2 {ad : Nat → Nat} {cA : Nat → ClassId} {σ τ : Sg} {v : Int32} (e : τ = sI σ 7 v) : (WL ad cA σ).set 38 (ad 38, .inr (2, ([.int (gI σ 5), .int (gI σ 6), .int (gI σ 7), .int (gI σ 8), .ref (ad 39), .ref (ad 40), .ref (ad 41), .ref (ad 42), .ref (ad 43), .ref (ad 44), .ref (ad 45)] : List Value).set 2 (.int v))) = WL ad cA τ := by subst e; rfl
theorem ws_38_3 {ad : Nat → Nat} {cA : Nat → ClassId} {σ τ : Sg} {v : Int32} (e : τ = sI σ 8 v) : (WL ad cA σ).set 38 (ad 38, .inr (2, ([.int (gI σ 5), .int (gI σ 6), .int (gI σ 7), .int (gI σ 8), .ref (ad 39), .ref (ad 40), .ref (ad 41), .ref (ad 42), .ref (ad 43), .ref (ad 44), .ref (ad 45)] : List Value).set 3 (.int v))) = WL ad cA τ := by subst e; rfl
theorem ws_39 {ad : Nat → Nat} {cA : Nat → ClassId} {σ τ : Sg} {i : Int32} {v : Int32} (e : τ = sA σ 18 (ix i) v) : (WL ad cA σ).set 39 (ad 39, .inl (cA 0, 9, .inl (upd (gA σ 18) i.toNatClampNeg v))) = WL ad cA τ := by subst e; rfl
theorem ws_40 {ad : Nat → Nat} {cA : Nat → ClassId} {σ τ : Sg} {i : Int32} {v : Int32} (e : τ = sA σ 19 (ix i) v) : (WL ad cA σ).set 40 (ad 40, .inl (cA 0, 5, .inl (upd (gA σ 19) i.toNatClampNeg v))) = WL ad cA τ := by subst e; rfl
theorem ws_41 {ad : Nat → Nat} {cA : Nat → ClassId} {σ τ : Sg} {i : Int32} {v : Int32} (e : τ = sA σ 20 (ix i) v) : (WL ad cA σ).set 41 (ad 41, .inl (cA 0, 5, .inl (upd (gA σ 20) i.toNatClampNeg v))) = WL ad cA τ := by subst e; rfl
theorem ws_42 {ad : Nat → Nat} {cA : Nat → ClassId} {σ τ : Sg} {i : Int32} {v : Int32} (e : τ = sA σ 21 (ix i) v) : (WL ad cA σ).set 42 (ad 42, .inl (cA 0, 5, .inl (upd (gA σ 21) i.toNatClampNeg v))) = WL ad cA τ := by subst e; rfl
theorem ws_43 {ad : Nat → Nat} {cA : Nat → ClassId} {σ τ : Sg} {i : Int32} {v : Int32} (e : τ = sA σ 22 (ix i) v) : (WL ad cA σ).set 43 (ad 43, .inl (cA 0, 512, .inl (upd (gA σ 22) i.toNatClampNeg v))) = WL ad cA τ := by subst e; rfl
theorem ws_44 {ad : Nat → Nat} {cA : Nat → ClassId} {σ τ : Sg} {i : Int32} {v : Int32} (e : τ = sA σ 23 (ix i) v) : (WL ad cA σ).set 44 (ad 44, .inl (cA 0, 512, .inl (upd (gA σ 23) i.toNatClampNeg v))) = WL ad cA τ := by subst e; rfl
theorem ws_45 {ad : Nat → Nat} {cA : Nat → ClassId} {σ τ : Sg} {i : Int32} {v : Int64} (e : τ = sB σ 11 (ix i) v) : (WL ad cA σ).set 45 (ad 45, .inl (cA 1, 512, .inr (.inl (vp_updL (gB σ 11) i.toNatClampNeg v)))) = WL ad cA τ := by subst e; rfl
theorem ws_46_0 {ad : Nat → Nat} {cA : Nat → ClassId} {σ τ : Sg} {v : Int32} (e : τ = sI σ 9 v) : (WL ad cA σ).set 46 (ad 46, .inr (6, ([.int (gI σ 9), .int (gI σ 10), .int (gI σ 11), .int (gI σ 12), .ref (ad 47), .ref (ad 48), .ref (ad 49), .ref (ad 50), .ref (ad 51)] : List Value).set 0 (.int v))) = WL ad cA τ := by subst e; rfl
theorem ws_46_1 {ad : Nat → Nat} {cA : Nat → ClassId} {σ τ : Sg} {v : Int32} (e : τ = sI σ 10 v) : (WL ad cA σ).set 46 (ad 46, .inr (6, ([.int (gI σ 9), .int (gI σ 10), .int (gI σ 11), .int (gI σ 12), .ref (ad 47), .ref (ad 48), .ref (ad 49), .ref (ad 50), .ref (ad 51)] : List Value).set 1 (.int v))) = WL ad cA τ := by subst e; rfl
theorem ws_46_2 {ad : Nat → Nat} {cA : Nat → ClassId} {σ τ : Sg} {v : Int32} (e : τ = sI σ 11 v) : (WL ad cA σ).set 46 (ad 46, .inr (6, ([.int (gI σ 9), .int (gI σ 10), .int (gI σ 11), .int (gI σ 12), .ref (ad 47), .ref (ad 48), .ref (ad 49), .ref (ad 50), .ref (ad 51)] : List Value).set 2 (.int v))) = WL ad cA τ := by subst e; rfl
theorem ws_46_3 {ad : Nat → Nat} {cA : Nat → ClassId} {σ τ : Sg} {v : Int32} (e : τ = sI σ 12 v) : (WL ad cA σ).set 46 (ad 46, .inr (6, ([.int (gI σ 9), .int (gI σ 10), .int (gI σ 11), .int (gI σ 12), .ref (ad 47), .ref (ad 48), .ref (ad 49), .ref (ad 50), .ref (ad 51)] : List Value).set 3 (.int v))) = WL ad cA τ := by subst e; rfl
theorem ws_47 {ad : Nat → Nat} {cA : Nat → ClassId} {σ τ : Sg} {i : Int32} {v : Int32} (e : τ = sA σ 24 (ix i) v) : (WL ad cA σ).set 47 (ad 47, .inl (cA 0, 45, .inl (upd (gA σ 24) i.toNatClampNeg v))) = WL ad cA τ := by subst e; rfl
theorem ws_48 {ad : Nat → Nat} {cA : Nat → ClassId} {σ τ : Sg} {i : Int32} {v : Int32} (e : τ = sA σ 25 (ix i) v) : (WL ad cA σ).set 48 (ad 48, .inl (cA 0, 9, .inl (upd (gA σ 25) i.toNatClampNeg v))) = WL ad cA τ := by subst e; rfl
theorem ws_49 {ad : Nat → Nat} {cA : Nat → ClassId} {σ τ : Sg} {i : Int32} {v : Int32} (e : τ = sA σ 26 (ix i) v) : (WL ad cA σ).set 49 (ad 49, .inl (cA 0, 512, .inl (upd (gA σ 26) i.toNatClampNeg v))) = WL ad cA τ := by subst e; rfl
theorem ws_50 {ad : Nat → Nat} {cA : Nat → ClassId} {σ τ : Sg} {i : Int32} {v : Int32} (e : τ = sA σ 27 (ix i) v) : (WL ad cA σ).set 50 (ad 50, .inl (cA 3, 512, .inl (upd (gA σ 27) i.toNatClampNeg v))) = WL ad cA τ := by subst e; rfl
theorem ws_51 {ad : Nat → Nat} {cA : Nat → ClassId} {σ τ : Sg} {i : Int32} {v : Int32} (e : τ = sA σ 28 (ix i) v) : (WL ad cA σ).set 51 (ad 51, .inl (cA 0, 9, .inl (upd (gA σ 28) i.toNatClampNeg v))) = WL ad cA τ := by subst e; rfl
theorem nw_tab {w : Cond} (h : nwWord w = true) : w.onTables = true := by
  cases w <;> first | rfl | (simp [nwWord] at h)
theorem nw_warm {w : Cond} (hn : nwWord w = true) {s U : State} (hW : s.WarmedH U.vm) (h : va_Nw w s) : va_Nw w U := by
  cases w <;> first | exact va_Nw.warmC hW h | exact va_Nw.warmD hW h | exact va_Nw.warmF hW h | exact va_Nw.warmM hW h | (simp [nwWord] at hn)
/-! what is given of the start: statics, Strings, classes, the script -/
abbrev gv_T : Type := (Nat → Nat) × (Nat → Nat) × Value × Nat × Nat × (Nat → Int32)
def GV (g : gv_T) (A : Nat → Prop) (U : State) (H : Heap) : Prop :=
  (vx_Zq Bundle.tN "UNASSIGNED_STACK" Bundle.steD A U H ∧ vx_Zq Bundle.tN "SUPPRESSED_SENTINEL" Bundle.listD A U H) ∧
  (va_Z "java/lang/String" "COMPACT_STRINGS" "Z" (.int 1) A U H ∧ va_Z "jdk/internal/util/Preconditions" "SIOOBE_FORMATTER" "Ljava/util/function/BiFunction;" g.2.2.1 A U H) ∧
  (∀ x ∈ SC, vk_S 1 [x.2.1] [x.2.2] (fun _ => g.1 x.1) (fun _ => g.2.1 x.1) A U H) ∧
  (va_X g.2.2.2.1 g.2.2.2.2.1 g.2.2.2.2.2 U H ∧ ¬ A g.2.2.2.1) ∧
  (∀ (i : Nat) (x : String × Nat × String), STR[i]? = some x → vk_R x.1 x.2.1 x.2.2 (g.1 i) U) ∧
  (∀ w ∈ NW, va_Nw w U) ∧ (∀ x ∈ NCL, va_Nc x.1 x.2 U)
theorem GV.th {g : gv_T} {A : Nat → Prop} {s : State} {H : Heap} (h : GV g A s H) : vx_Zq Bundle.tN "UNASSIGNED_STACK" Bundle.steD A s H ∧ vx_Zq Bundle.tN "SUPPRESSED_SENTINEL" Bundle.listD A s H := h.1
theorem GV.cs {g : gv_T} {A : Nat → Prop} {s : State} {H : Heap} (h : GV g A s H) : va_Z "java/lang/String" "COMPACT_STRINGS" "Z" (.int 1) A s H := h.2.1.1
theorem GV.si {g : gv_T} {A : Nat → Prop} {s : State} {H : Heap} (h : GV g A s H) : va_Z "jdk/internal/util/Preconditions" "SIOOBE_FORMATTER" "Ljava/util/function/BiFunction;" g.2.2.1 A s H := h.2.1.2
theorem GV.sc {g : gv_T} {A : Nat → Prop} {s : State} {H : Heap} (h : GV g A s H) {x : Nat × Nat × List Int32} (hx : x ∈ SC) : vk_S 1 [x.2.1] [x.2.2] (fun _ => g.1 x.1) (fun _ => g.2.1 x.1) A s H := h.2.2.1 x hx
theorem GV.scr {g : gv_T} {A : Nat → Prop} {s : State} {H : Heap} (h : GV g A s H) : va_X g.2.2.2.1 g.2.2.2.2.1 g.2.2.2.2.2 s H ∧ ¬ A g.2.2.2.1 := h.2.2.2.1
theorem GV.str {g : gv_T} {A : Nat → Prop} {s : State} {H : Heap} (h : GV g A s H) : ∀ (i : Nat) (x : String × Nat × String), STR[i]? = some x → vk_R x.1 x.2.1 x.2.2 (g.1 i) s := h.2.2.2.2.1
theorem GV.nw {g : gv_T} {A : Nat → Prop} {s : State} {H : Heap} (h : GV g A s H) : ∀ w ∈ NW, va_Nw w s := h.2.2.2.2.2.1
theorem GV.nc {g : gv_T} {A : Nat → Prop} {s : State} {H : Heap} (h : GV g A s H) : ∀ x ∈ NCL, va_Nc x.1 x.2 s := h.2.2.2.2.2.2
theorem GV.warm {g : gv_T} {A : Nat → Prop} {s U : State} {H : Heap} (hW : s.WarmedH U.vm) (h : GV g A s H) : GV g A U H := by
  obtain ⟨⟨h1, h2⟩, ⟨h3, h4⟩, h5, ⟨h6, h7⟩, h8, h9, h10⟩ := h
  exact ⟨⟨vx_Zq.moved hW.alike h1, vx_Zq.moved hW.alike h2⟩, ⟨va_Z.moved hW.alike h3, va_Z.moved hW.alike h4⟩, fun x hx => vk_S.moved hW.alike (h5 x hx), ⟨va_X.moved hW.alike h6, h7⟩, fun i x hx => vk_R.warm hW (h8 i x hx), fun w hw => nw_warm (List.mem_filter.mp hw).2 hW (h9 w hw), fun x hx => va_Nc.moved hW.alike (h10 x hx)⟩
theorem va_X.bound {b L : Nat} {xs : Nat → Int32} {U : State} {H : Heap} (h : va_X b L xs U H) : b < H.size := by
  obtain ⟨scr, h1, -⟩ := h
  exact (Array.getElem?_eq_some_iff.mp h1).1
theorem GV.kept {g : gv_T} {A : Nat → Prop} {U : State} {H H1 : Heap} (h : GV g A U H) (hq : ∀ a : Nat, a < H.size → ¬ A a → H1[a]? = H[a]?) : GV g A U H1 := by
  obtain ⟨⟨h1, h2⟩, ⟨h3, h4⟩, h5, ⟨h6, h7⟩, h8, h9, h10⟩ := h
  exact ⟨⟨h1.kept hq, h2.kept hq⟩, ⟨h3.kept hq, h4.kept hq⟩, fun x hx => (h5 x hx).kept hq, ⟨h6.kept (hq _ h6.bound h7), h7⟩, h8, h9, h10⟩
theorem GV.narrow {g : gv_T} {A B : Nat → Prop} {U : State} {H : Heap} (h : GV g A U H) (hAB : ∀ q, B q → A q) : GV g B U H := by
  obtain ⟨⟨h1, h2⟩, ⟨h3, h4⟩, h5, ⟨h6, h7⟩, h8, h9, h10⟩ := h
  exact ⟨⟨h1.narrow hAB, h2.narrow hAB⟩, ⟨h3.narrow hAB, h4.narrow hAB⟩, fun x hx => (h5 x hx).narrow hAB, ⟨h6, fun z => h7 (hAB _ z)⟩, h8, h9, h10⟩
/-! contracts -/
abbrev TYS (cA : Nat → ClassId) : List (ClassId × FieldType) := [(cA 0, .int), (cA 1, .long), (cA 2, .char), (cA 3, .boolean)]
def PcB (D : va_G) (cA : Nat → ClassId) (g : gv_T) (ws : va_W) (sz : Nat) (U : State) : Prop := U.heap.size = sz ∧ va_P D vwCl ws U.heap ∧ va_K D vwCl (TYS cA) U ∧ va_D (fun _ => True) ws ∧ GV g (va_A ws sz) U U.heap
abbrev PcG (D : va_G) (cA : Nat → ClassId) (g : gv_T) (av : List Value) (ws : va_W) (sz : Nat) : Array Value → State → Prop := va_Pc av (PcB D cA g ws sz)
theorem PcG.blind (D : va_G) (cA : Nat → ClassId) (g : gv_T) (av : List Value) (ws : va_W) (sz : Nat) : FrameBlind (PcG D cA g av ws sz) := by
  intro a U f mk h
  obtain ⟨h1, h2, h3, h4, h5, h6⟩ := h
  exact ⟨h1, h2, h3, va_K.moved (u := U) (U := U.calling f mk a) (Vm.Alike.refl U.vm) h4, h5, GV.warm (U := U.calling f mk a) (State.WarmedH.refl U) h6⟩
def QcG (D : va_G) (A : Nat → Prop) (rv : (Nat → Nat) → Option Value) (ws' : (Nat → Nat) → va_W) : Array Value → State → Outcome → State → Prop := fun _ st oc t => (∃ q : Nat → Nat, oc = .returned (rv q) ∧ va_P D vwCl (ws' q) t.heap ∧ va_D A (ws' q)) ∧ va_F A st t
def QM (D : va_G) (ad : Nat → Nat) (cA : Nat → ClassId) (A : Nat → Prop) (Q : Option Value → Sg → Prop) : Array Value → State → Outcome → State → Prop := fun _ st oc t => (∃ (v : Option Value) (σ : Sg), Q v σ ∧ oc = .returned v ∧ va_P D vwCl (WL ad cA σ) t.heap ∧ va_D A (WL ad cA σ)) ∧ va_F A st t
def XM (D : va_G) (ad : Nat → Nat) (cA : Nat → ClassId) (A : Nat → Prop) (X : String → Sg → Prop) : String → State → State → Prop := fun E st t => (∃ σ : Sg, X E σ ∧ va_P D vwCl (WL ad cA σ) t.heap ∧ va_D A (WL ad cA σ)) ∧ va_F A st t
abbrev RM (f c s n : Nat) : Room := { frames := f, cells := c, slots := s, locals := n }
def CT (l : Launch) (y : MethodName) (b : ByteArray) (n : Nat) (ret : Option FieldType) (R : Room) (D : va_G) (cA : Nat → ClassId) (g : gv_T) (av : List Value) (ws : va_W) (rv : (Nat → Nat) → Option Value) (ws' : (Nat → Nat) → va_W) : Prop :=
  ∀ sz : Nat, Met l y (.code y b n ret :: GW) R (PcG D cA g av ws sz) (QcG D (va_A ws sz) rv ws') R.cells R.slots (va_A ws sz)
/-- a method of the yard: Q what it answers and leaves, X what it throws and leaves -/
def MC (l : Launch) (y : MethodName) (b : ByteArray) (n : Nat) (ret : Option FieldType) (R : Room) (D : va_G) (ad : Nat → Nat) (cA : Nat → ClassId) (g : gv_T) (av : List Value) (σ : Sg) (Q : Option Value → Sg → Prop) (X : String → Sg → Prop) : Prop :=
  ∀ sz : Nat, vx_Met l y (.code y b n ret :: GW) R (PcG D cA g av (WL ad cA σ) sz) (QM D ad cA (va_A (WL ad cA σ) sz) Q) (XM D ad cA (va_A (WL ad cA σ) sz) X) R.cells R.slots (va_A (WL ad cA σ) sz)
/-- the same with a table of its own; nothing leaves it but by a return -/
def MW (l : Launch) (y : MethodName) (b : ByteArray) (n : Nat) (ret : Option FieldType) (hh : List (Nat × Nat × Nat × Nat)) (R : Room) (D : va_G) (ad : Nat → Nat) (cA : Nat → ClassId) (g : gv_T) (av : List Value) (σ : Sg) (Q : Option Value → Sg → Prop) : Prop :=
  ∀ sz : Nat, Met l y (.codeWith y b n ret hh :: GW) R (PcG D cA g av (WL ad cA σ) sz) (QM D ad cA (va_A (WL ad cA σ) sz) Q) R.cells R.slots (va_A (WL ad cA σ) sz)
section CTS
variable {l : Launch} {y : MethodName} {b : ByteArray} {n : Nat} {ret : Option FieldType} {R : Room} {D : va_G} {ad : Nat → Nat} {cA : Nat → ClassId} {g : gv_T} {av : List Value} {ws : va_W} {rv : (Nat → Nat) → Option Value} {ws' : (Nat → Nat) → va_W} {σ : Sg} {Q : Option Value → Sg → Prop} {X : String → Sg → Prop}
theorem CT.of (hy : plainName y.cls = true) (hn : (lg_sl av).length ≤ n)
    (body : ∀ (p : Program) (e : Env) (s : State) (m : MethodId) (args : Array Value) (below : List Frame) (meth : Method) (c : Code) (A : Nat → Prop) (ls : Array Slot),
      p.tables.exec = Jvm.exec → c.code = b → meth.sig.returnType = ret → c.maxLocals = n → s.vm.findClass y.cls = some m.cls → (∀ w ∈ GW, w.before args s = true) → meth.locks = false → meth.name = y.name →
      (∀ q : Nat, s.heap.size ≤ q → A q) → va_S A s.heap s.heap [] → va_P D vwCl ws s.heap → va_K D vwCl (TYS cA) s → va_D A ws → GV g A s s.heap → lv_has ls n (lv_args 0 av) →
      W p l e R s m args below meth c s.heap [] 0 0 (MQ below (QcG D A rv ws') args s R.cells R.slots A) (F0 m 0 ls [])) : CT l y b n ret R D cA g av ws rv ws' := by
  intro sz
  refine Met.ofW (cc := b) (maxL := n) (ret := ret) hy rfl ?_
  intro p e s m args below meth c s₁ B hml hv
  obtain ⟨rfl, hsz, hP, hK, hD0, hGV⟩ := hv
  subst hsz
  rw [lg_entry_eq]
  exact body p e s m _ below meth c _ _ B.exec B.bytes B.returns hml (findClass_of_methodNamed B.named) (fun w hw => atoms_spec (ws := .code y b n ret :: GW) B.pre w (List.mem_cons_of_mem _ hw)) B.notSynchronized (name_of_methodNamed B.named B.method).1 (fun q h => Or.inr h) va_S.rf hP hK (hD0.self (sz := s.heap.size)) hGV (lv_entry av hn)
theorem MC.of (hy : plainName y.cls = true) (hn : (lg_sl av).length ≤ n)
    (body : ∀ (p : Program) (e : Env) (s : State) (m : MethodId) (args : Array Value) (below : List Frame) (meth : Method) (c : Code) (A : Nat → Prop) (ls : Array Slot),
      p.tables.exec = Jvm.exec → c.code = b → meth.sig.returnType = ret → c.maxLocals = n → s.vm.findClass y.cls = some m.cls → (∀ w ∈ GW, w.before args s = true) → meth.locks = false → (∀ x ∈ c.exceptionTable.toList, False) →
      (∀ q : Nat, s.heap.size ≤ q → A q) → va_S A s.heap s.heap [] → va_P D vwCl (WL ad cA σ) s.heap → va_K D vwCl (TYS cA) s → va_D A (WL ad cA σ) → GV g A s s.heap → lv_has ls n (lv_args 0 av) →
      W p l e R s m args below meth c s.heap [] 0 0 (vx_MQ below (QM D ad cA A Q) (XM D ad cA A X) args s R.cells R.slots A) (F0 m 0 ls [])) : MC l y b n ret R D ad cA g av σ Q X := by
  intro sz
  refine vx_ofW (cc := b) (maxL := n) (ret := ret) hy rfl ?_
  intro p e s m args below meth c s₁ B hml ht hv
  obtain ⟨rfl, hsz, hP, hK, hD0, hGV⟩ := hv
  subst hsz
  rw [lg_entry_eq]
  exact body p e s m _ below meth c _ _ B.exec B.bytes B.returns hml (findClass_of_methodNamed B.named) (fun w hw => atoms_spec (ws := .code y b n ret :: GW) B.pre w (List.mem_cons_of_mem _ hw)) B.notSynchronized ht (fun q h => Or.inr h) va_S.rf hP hK (hD0.self (sz := s.heap.size)) hGV (lv_entry av hn)
theorem MW.of {hh : List (Nat × Nat × Nat × Nat)} (hy : plainName y.cls = true) (hn : (lg_sl av).length ≤ n)
    (body : ∀ (p : Program) (e : Env) (s : State) (m : MethodId) (args : Array Value) (below : List Frame) (meth : Method) (c : Code) (A : Nat → Prop) (ls : Array Slot),
      p.tables.exec = Jvm.exec → c.code = b → meth.sig.returnType = ret → c.maxLocals = n → s.vm.findClass y.cls = some m.cls → (∀ w ∈ GW, w.before args s = true) → meth.locks = false → c.exceptionTable.toList = tableOf hh →
      (∀ q : Nat, s.heap.size ≤ q → A q) → va_S A s.heap s.heap [] → va_P D vwCl (WL ad cA σ) s.heap → va_K D vwCl (TYS cA) s → va_D A (WL ad cA σ) → GV g A s s.heap → lv_has ls n (lv_args 0 av) →
      W p l e R s m args below meth c s.heap [] 0 0 (MQ below (QM D ad cA A Q) args s R.cells R.slots A) (F0 m 0 ls [])) : MW l y b n ret hh R D ad cA g av σ Q := by
  intro sz
  refine va_MetW (cc := b) (maxL := n) (ret := ret) (hh := hh) hy rfl ?_
  intro p e s m args below meth c s₁ B hml hv
  obtain ⟨rfl, hsz, hP, hK, hD0, hGV⟩ := hv
  subst hsz
  rw [lg_entry_eq]
  exact body p e s m _ below meth c _ _ B.exec B.bytes B.returns hml (findClass_of_methodNamed B.named) (fun w hw => atoms_spec (ws := .codeWith y b n ret hh :: GW) B.pre w (List.mem_cons_of_mem _ hw)) B.notSynchronized (vx_table (x := y) B (atoms_spec (ws := .codeWith y b n ret hh :: GW) B.pre _ List.mem_cons_self)) (fun q h => Or.inr h) va_S.rf hP hK (hD0.self (sz := s.heap.size)) hGV (lv_entry av hn)
end CTS
def iShl (x y : Int32) : Int32 := x <<< (y &&& 31)
def iShr (x y : Int32) : Int32 := x >>> (y &&& 31)
def iUshr (x y : Int32) : Int32 := (x.toUInt32 >>> (y.toUInt32 &&& Int32.toUInt32 31)).toInt32
def lShr (x : Int64) (y : Int32) : Int64 := x >>> (y.toInt64 &&& 63)
def lUshr (x : Int64) (y : Int32) : Int64 := (x.toUInt64 >>> (y.toInt64.toUInt64 &&& Int64.toUInt64 63)).toInt64
def iRem (x y : Int32) : Int32 := x - x / y * y
def lRem (x y : Int64) : Int64 := x - x / y * y
def mabsl (x : Int64) : Int64 := if 0 < x then x else -x
def mmax (x y : Int32) : Int32 := if x < y then y else x
def mmin (x y : Int32) : Int32 := if y < x then y else x
def mminl (x y : Int64) : Int64 := if y < x then y else x
theorem lc_lt {x y : Int64} : lg_cmp x y < 0 ↔ x < y := lg_cmp_lt
theorem lc_gt {x y : Int64} : 0 < lg_cmp x y ↔ y < x := lg_cmp_gt
theorem lc_ge {x y : Int64} : 0 ≤ lg_cmp x y ↔ y ≤ x := by
  rw [← Int32.not_lt, lc_lt, Int64.not_lt]
theorem lc_le {x y : Int64} : lg_cmp x y ≤ 0 ↔ x ≤ y := by
  rw [← Int32.not_lt, lc_gt, Int64.not_lt]
theorem lc_eq {x y : Int64} : lg_cmp x y = 0 ↔ x = y := by
  constructor
  · intro h
    have h1 : ¬ x < y := fun q => by have := lc_lt.mpr q; rw [h] at this; exact absurd this (by decide)
    have h2 : ¬ y < x := fun q => by have := lc_gt.mpr q; rw [h] at this; exact absurd this (by decide)
    exact Int64.le_antisymm (Int64.not_lt.mp h2) (Int64.not_lt.mp h1)
  · intro h
    have h1 : ¬ lg_cmp x y < 0 := fun q => Int64.lt_irrefl (by rw [h] at q; exact lc_lt.mp q : y < y)
    have h2 : ¬ 0 < lg_cmp x y := fun q => Int64.lt_irrefl (by rw [h] at q; exact lc_gt.mp q : y < y)
    exact Int32.le_antisymm (Int32.not_lt.mp h2) (Int32.not_lt.mp h1)
theorem lc_ne {x y : Int64} : ¬ lg_cmp x y = 0 ↔ ¬ x = y := not_congr lc_eq
theorem lc_nen {x y : Int64} (h : ¬ ¬ lg_cmp x y = 0) : x = y := lc_eq.mp (Classical.not_not.mp h)
theorem sw7 (x : Int32) : x = 0 ∨ x = 1 ∨ x = 2 ∨ x = 3 ∨ x = 4 ∨ x = 5 ∨ x = 6 ∨ x = 7 ∨ (x.toInt < 0 ∨ 7 < x.toInt) := by
  by_cases h : x.toInt < 0 ∨ 7 < x.toInt
  · simp [h]
  · have h1 : 0 ≤ x.toInt ∧ x.toInt ≤ 7 := by omega
    rcases (show x.toInt = 0 ∨ x.toInt = 1 ∨ x.toInt = 2 ∨ x.toInt = 3 ∨ x.toInt = 4 ∨ x.toInt = 5 ∨ x.toInt = 6 ∨ x.toInt = 7 by omega) with e | e | e | e | e | e | e | e
    · exact Or.inl (Int32.toInt.inj e)
    · exact Or.inr (Or.inl (Int32.toInt.inj e))
    · exact Or.inr (Or.inr (Or.inl (Int32.toInt.inj e)))
    · exact Or.inr (Or.inr (Or.inr (Or.inl (Int32.toInt.inj e))))
    · exact Or.inr (Or.inr (Or.inr (Or.inr (Or.inl (Int32.toInt.inj e)))))
    · exact Or.inr (Or.inr (Or.inr (Or.inr (Or.inr (Or.inl (Int32.toInt.inj e))))))
    · exact Or.inr (Or.inr (Or.inr (Or.inr (Or.inr (Or.inr (Or.inl (Int32.toInt.inj e)))))))
    · exact Or.inr (Or.inr (Or.inr (Or.inr (Or.inr (Or.inr (Or.inr (Or.inl (Int32.toInt.inj e))))))))
/-! rows, with what is known put in -/
section KR
variable {p : Program} {l : Launch} {e : Env} {R : Room} {s : State} {m : MethodId} {args : Array Value} {below : List Frame} {meth : Method} {c : Code} {H : Heap} {locs : List Loc} {cells slots : Nat} {Q : State → Prop}
variable {cc : ByteArray} {pc : Nat} {ls : Array Slot} {rest : List Value} {D : va_G} {cA : Nat → ClassId} {A : Nat → Prop} {a : Nat} {ws : va_W}
theorem k_iadd (hx : p.tables.exec = Jvm.exec) (hb : c.code = cc) {x y v : Int32} (d : decode cc pc = .ok (.iadd, 1)) (hv : x + y = v) (k : W p l e R s m args below meth c H locs cells slots Q (F0 m (pc + 1) ls (.int v :: rest))) : W p l e R s m args below meth c H locs cells slots Q (F0 m pc ls (.int y :: .int x :: rest)) := lv_iadd hx hb d (by rw [hv]; exact k)
theorem k_isub (hx : p.tables.exec = Jvm.exec) (hb : c.code = cc) {x y v : Int32} (d : decode cc pc = .ok (.isub, 1)) (hv : x - y = v) (k : W p l e R s m args below meth c H locs cells slots Q (F0 m (pc + 1) ls (.int v :: rest))) : W p l e R s m args below meth c H locs cells slots Q (F0 m pc ls (.int y :: .int x :: rest)) := lv_isub hx hb d (by rw [hv]; exact k)
theorem k_imul (hx : p.tables.exec = Jvm.exec) (hb : c.code = cc) {x y v : Int32} (d : decode cc pc = .ok (.imul, 1)) (hv : x * y = v) (k : W p l e R s m args below meth c H locs cells slots Q (F0 m (pc + 1) ls (.int v :: rest))) : W p l e R s m args below meth c H locs cells slots Q (F0 m pc ls (.int y :: .int x :: rest)) := lv_imul hx hb d (by rw [hv]; exact k)
theorem k_iand (hx : p.tables.exec = Jvm.exec) (hb : c.code = cc) {x y v : Int32} (d : decode cc pc = .ok (.iand, 1)) (hv : x &&& y = v) (k : W p l e R s m args below meth c H locs cells slots Q (F0 m (pc + 1) ls (.int v :: rest))) : W p l e R s m args below meth c H locs cells slots Q (F0 m pc ls (.int y :: .int x :: rest)) := lv_iand hx hb d (by rw [hv]; exact k)
theorem k_ior (hx : p.tables.exec = Jvm.exec) (hb : c.code = cc) {x y v : Int32} (d : decode cc pc = .ok (.ior, 1)) (hv : x ||| y = v) (k : W p l e R s m args below meth c H locs cells slots Q (F0 m (pc + 1) ls (.int v :: rest))) : W p l e R s m args below meth c H locs cells slots Q (F0 m pc ls (.int y :: .int x :: rest)) := lv_ior hx hb d (by rw [hv]; exact k)
theorem k_ixor (hx : p.tables.exec = Jvm.exec) (hb : c.code = cc) {x y v : Int32} (d : decode cc pc = .ok (.ixor, 1)) (hv : x ^^^ y = v) (k : W p l e R s m args below meth c H locs cells slots Q (F0 m (pc + 1) ls (.int v :: rest))) : W p l e R s m args below meth c H locs cells slots Q (F0 m pc ls (.int y :: .int x :: rest)) := lv_ixor hx hb d (by rw [hv]; exact k)
theorem k_ishl (hx : p.tables.exec = Jvm.exec) (hb : c.code = cc) {x y v : Int32} (d : decode cc pc = .ok (.ishl, 1)) (hv : x <<< (y &&& 31) = v) (k : W p l e R s m args below meth c H locs cells slots Q (F0 m (pc + 1) ls (.int v :: rest))) : W p l e R s m args below meth c H locs cells slots Q (F0 m pc ls (.int y :: .int x :: rest)) := lv_ishl hx hb d (by rw [hv]; exact k)
theorem k_ishr (hx : p.tables.exec = Jvm.exec) (hb : c.code = cc) {x y v : Int32} (d : decode cc pc = .ok (.ishr, 1)) (hv : x >>> (y &&& 31) = v) (k : W p l e R s m args below meth c H locs cells slots Q (F0 m (pc + 1) ls (.int v :: rest))) : W p l e R s m args below meth c H locs cells slots Q (F0 m pc ls (.int y :: .int x :: rest)) := lv_ishr hx hb d (by rw [hv]; exact k)
theorem k_ladd (hx : p.tables.exec = Jvm.exec) (hb : c.code = cc) {x y v : Int64} (d : decode cc pc = .ok (.ladd, 1)) (hv : x + y = v) (k : W p l e R s m args below meth c H locs cells slots Q (F0 m (pc + 1) ls (.long v :: rest))) : W p l e R s m args below meth c H locs cells slots Q (F0 m pc ls (.long y :: .long x :: rest)) := lv_ladd hx hb d (by rw [hv]; exact k)
theorem k_lsub (hx : p.tables.exec = Jvm.exec) (hb : c.code = cc) {x y v : Int64} (d : decode cc pc = .ok (.lsub, 1)) (hv : x - y = v) (k : W p l e R s m args below meth c H locs cells slots Q (F0 m (pc + 1) ls (.long v :: rest))) : W p l e R s m args below meth c H locs cells slots Q (F0 m pc ls (.long y :: .long x :: rest)) := lv_lsub hx hb d (by rw [hv]; exact k)
theorem k_lmul (hx : p.tables.exec = Jvm.exec) (hb : c.code = cc) {x y v : Int64} (d : decode cc pc = .ok (.lmul, 1)) (hv : x * y = v) (k : W p l e R s m args below meth c H locs cells slots Q (F0 m (pc + 1) ls (.long v :: rest))) : W p l e R s m args below meth c H locs cells slots Q (F0 m pc ls (.long y :: .long x :: rest)) := lv_lmul hx hb d (by rw [hv]; exact k)
theorem k_land (hx : p.tables.exec = Jvm.exec) (hb : c.code = cc) {x y v : Int64} (d : decode cc pc = .ok (.land, 1)) (hv : x &&& y = v) (k : W p l e R s m args below meth c H locs cells slots Q (F0 m (pc + 1) ls (.long v :: rest))) : W p l e R s m args below meth c H locs cells slots Q (F0 m pc ls (.long y :: .long x :: rest)) := lv_land hx hb d (by rw [hv]; exact k)
theorem k_idiv (hx : p.tables.exec = Jvm.exec) (hb : c.code = cc) {x y v : Int32} (d : decode cc pc = .ok (.idiv, 1)) (hne : ¬ y = 0) (hv : x / y = v) (k : W p l e R s m args below meth c H locs cells slots Q (F0 m (pc + 1) ls (.int v :: rest))) : W p l e R s m args below meth c H locs cells slots Q (F0 m pc ls (.int y :: .int x :: rest)) := lv_idiv hx hb d hne (by rw [hv]; exact k)
theorem k_irem (hx : p.tables.exec = Jvm.exec) (hb : c.code = cc) {x y v : Int32} (d : decode cc pc = .ok (.irem, 1)) (hne : ¬ y = 0) (hv : x - x / y * y = v) (k : W p l e R s m args below meth c H locs cells slots Q (F0 m (pc + 1) ls (.int v :: rest))) : W p l e R s m args below meth c H locs cells slots Q (F0 m pc ls (.int y :: .int x :: rest)) := lv_irem hx hb d hne (by rw [hv]; exact k)
theorem k_ldiv (hx : p.tables.exec = Jvm.exec) (hb : c.code = cc) {x y v : Int64} (d : decode cc pc = .ok (.ldiv, 1)) (hne : ¬ y = 0) (hv : x / y = v) (k : W p l e R s m args below meth c H locs cells slots Q (F0 m (pc + 1) ls (.long v :: rest))) : W p l e R s m args below meth c H locs cells slots Q (F0 m pc ls (.long y :: .long x :: rest)) := lv_ldiv hx hb d hne (by rw [hv]; exact k)
theorem k_lrem (hx : p.tables.exec = Jvm.exec) (hb : c.code = cc) {x y v : Int64} (d : decode cc pc = .ok (.lrem, 1)) (hne : ¬ y = 0) (hv : x - x / y * y = v) (k : W p l e R s m args below meth c H locs cells slots Q (F0 m (pc + 1) ls (.long v :: rest))) : W p l e R s m args below meth c H locs cells slots Q (F0 m pc ls (.long y :: .long x :: rest)) := lv_lrem hx hb d hne (by rw [hv]; exact k)
theorem k_lcmp (hx : p.tables.exec = Jvm.exec) (hb : c.code = cc) {x y : Int64} {v : Int32} (d : decode cc pc = .ok (.lcmp, 1)) (hv : lg_cmp x y = v) (k : W p l e R s m args below meth c H locs cells slots Q (F0 m (pc + 1) ls (.int v :: rest))) : W p l e R s m args below meth c H locs cells slots Q (F0 m pc ls (.long y :: .long x :: rest)) := W.lcmp hx hb d (by rw [hv]; exact k)
theorem k_if_eq_t (hx : p.tables.exec = Jvm.exec) (hb : c.code = cc) {x : Int32} {off : Int} {tgt : Nat} (d : decode cc pc = .ok (.ifCond .eq off, 3)) (h : x = 0) (ht : (pc : Int) + off = (tgt : Int)) (k : W p l e R s m args below meth c H locs cells slots Q (F0 m tgt ls rest)) : W p l e R s m args below meth c H locs cells slots Q (F0 m pc ls (.int x :: rest)) := lv_if_eq hx hb d ht (fun _ => k) (fun q => absurd h q)
theorem k_if_eq_f (hx : p.tables.exec = Jvm.exec) (hb : c.code = cc) {x : Int32} {off : Int} {tgt : Nat} (d : decode cc pc = .ok (.ifCond .eq off, 3)) (h : ¬ x = 0) (ht : (pc : Int) + off = (tgt : Int)) (k : W p l e R s m args below meth c H locs cells slots Q (F0 m (pc + 3) ls rest)) : W p l e R s m args below meth c H locs cells slots Q (F0 m pc ls (.int x :: rest)) := lv_if_eq hx hb d ht (fun q => absurd q h) (fun _ => k)
theorem k_icmp_eq_t (hx : p.tables.exec = Jvm.exec) (hb : c.code = cc) {x y : Int32} {off : Int} {tgt : Nat} (d : decode cc pc = .ok (.if_icmp .eq off, 3)) (h : x = y) (ht : (pc : Int) + off = (tgt : Int)) (k : W p l e R s m args below meth c H locs cells slots Q (F0 m tgt ls rest)) : W p l e R s m args below meth c H locs cells slots Q (F0 m pc ls (.int y :: .int x :: rest)) := lv_icmp_eq hx hb d ht (fun _ => k) (fun q => absurd h q)
theorem k_icmp_eq_f (hx : p.tables.exec = Jvm.exec) (hb : c.code = cc) {x y : Int32} {off : Int} {tgt : Nat} (d : decode cc pc = .ok (.if_icmp .eq off, 3)) (h : ¬ x = y) (ht : (pc : Int) + off = (tgt : Int)) (k : W p l e R s m args below meth c H locs cells slots Q (F0 m (pc + 3) ls rest)) : W p l e R s m args below meth c H locs cells slots Q (F0 m pc ls (.int y :: .int x :: rest)) := lv_icmp_eq hx hb d ht (fun q => absurd q h) (fun _ => k)
theorem k_if_ne_t (hx : p.tables.exec = Jvm.exec) (hb : c.code = cc) {x : Int32} {off : Int} {tgt : Nat} (d : decode cc pc = .ok (.ifCond .ne off, 3)) (h : ¬ x = 0) (ht : (pc : Int) + off = (tgt : Int)) (k : W p l e R s m args below meth c H locs cells slots Q (F0 m tgt ls rest)) : W p l e R s m args below meth c H locs cells slots Q (F0 m pc ls (.int x :: rest)) := lv_if_ne hx hb d ht (fun _ => k) (fun q => absurd q h)
theorem k_if_ne_f (hx : p.tables.exec = Jvm.exec) (hb : c.code = cc) {x : Int32} {off : Int} {tgt : Nat} (d : decode cc pc = .ok (.ifCond .ne off, 3)) (h : x = 0) (ht : (pc : Int) + off = (tgt : Int)) (k : W p l e R s m args below meth c H locs cells slots Q (F0 m (pc + 3) ls rest)) : W p l e R s m args below meth c H locs cells slots Q (F0 m pc ls (.int x :: rest)) := lv_if_ne hx hb d ht (fun q => absurd h q) (fun _ => k)
theorem k_icmp_ne_t (hx : p.tables.exec = Jvm.exec) (hb : c.code = cc) {x y : Int32} {off : Int} {tgt : Nat} (d : decode cc pc = .ok (.if_icmp .ne off, 3)) (h : ¬ x = y) (ht : (pc : Int) + off = (tgt : Int)) (k : W p l e R s m args below meth c H locs cells slots Q (F0 m tgt ls rest)) : W p l e R s m args below meth c H locs cells slots Q (F0 m pc ls (.int y :: .int x :: rest)) := lv_icmp_ne hx hb d ht (fun _ => k) (fun q => absurd q h)
theorem k_icmp_ne_f (hx : p.tables.exec = Jvm.exec) (hb : c.code = cc) {x y : Int32} {off : Int} {tgt : Nat} (d : decode cc pc = .ok (.if_icmp .ne off, 3)) (h : x = y) (ht : (pc : Int) + off = (tgt : Int)) (k : W p l e R s m args below meth c H locs cells slots Q (F0 m (pc + 3) ls rest)) : W p l e R s m args below meth c H locs cells slots Q (F0 m pc ls (.int y :: .int x :: rest)) := lv_icmp_ne hx hb d ht (fun q => absurd h q) (fun _ => k)
theorem k_if_lt_t (hx : p.tables.exec = Jvm.exec) (hb : c.code = cc) {x : Int32} {off : Int} {tgt : Nat} (d : decode cc pc = .ok (.ifCond .lt off, 3)) (h : x < 0) (ht : (pc : Int) + off = (tgt : Int)) (k : W p l e R s m args below meth c H locs cells slots Q (F0 m tgt ls rest)) : W p l e R s m args below meth c H locs cells slots Q (F0 m pc ls (.int x :: rest)) := lv_if_lt hx hb d ht (fun _ => k) (fun q => absurd h q)
theorem k_if_lt_f (hx : p.tables.exec = Jvm.exec) (hb : c.code = cc) {x : Int32} {off : Int} {tgt : Nat} (d : decode cc pc = .ok (.ifCond .lt off, 3)) (h : ¬ x < 0) (ht : (pc : Int) + off = (tgt : Int)) (k : W p l e R s m args below meth c H locs cells slots Q (F0 m (pc + 3) ls rest)) : W p l e R s m args below meth c H locs cells slots Q (F0 m pc ls (.int x :: rest)) := lv_if_lt hx hb d ht (fun q => absurd q h) (fun _ => k)
theorem k_icmp_lt_t (hx : p.tables.exec = Jvm.exec) (hb : c.code = cc) {x y : Int32} {off : Int} {tgt : Nat} (d : decode cc pc = .ok (.if_icmp .lt off, 3)) (h : x < y) (ht : (pc : Int) + off = (tgt : Int)) (k : W p l e R s m args below meth c H locs cells slots Q (F0 m tgt ls rest)) : W p l e R s m args below meth c H locs cells slots Q (F0 m pc ls (.int y :: .int x :: rest)) := lv_icmp_lt hx hb d ht (fun _ => k) (fun q => absurd h q)
theorem k_icmp_lt_f (hx : p.tables.exec = Jvm.exec) (hb : c.code = cc) {x y : Int32} {off : Int} {tgt : Nat} (d : decode cc pc = .ok (.if_icmp .lt off, 3)) (h : ¬ x < y) (ht : (pc : Int) + off = (tgt : Int)) (k : W p l e R s m args below meth c H locs cells slots Q (F0 m (pc + 3) ls rest)) : W p l e R s m args below meth c H locs cells slots Q (F0 m pc ls (.int y :: .int x :: rest)) := lv_icmp_lt hx hb d ht (fun q => absurd q h) (fun _ => k)
theorem k_if_ge_t (hx : p.tables.exec = Jvm.exec) (hb : c.code = cc) {x : Int32} {off : Int} {tgt : Nat} (d : decode cc pc = .ok (.ifCond .ge off, 3)) (h : 0 ≤ x) (ht : (pc : Int) + off = (tgt : Int)) (k : W p l e R s m args below meth c H locs cells slots Q (F0 m tgt ls rest)) : W p l e R s m args below meth c H locs cells slots Q (F0 m pc ls (.int x :: rest)) := lv_if_ge hx hb d ht (fun _ => k) (fun q => absurd h q)
theorem k_if_ge_f (hx : p.tables.exec = Jvm.exec) (hb : c.code = cc) {x : Int32} {off : Int} {tgt : Nat} (d : decode cc pc = .ok (.ifCond .ge off, 3)) (h : ¬ 0 ≤ x) (ht : (pc : Int) + off = (tgt : Int)) (k : W p l e R s m args below meth c H locs cells slots Q (F0 m (pc + 3) ls rest)) : W p l e R s m args below meth c H locs cells slots Q (F0 m pc ls (.int x :: rest)) := lv_if_ge hx hb d ht (fun q => absurd q h) (fun _ => k)
theorem k_icmp_ge_t (hx : p.tables.exec = Jvm.exec) (hb : c.code = cc) {x y : Int32} {off : Int} {tgt : Nat} (d : decode cc pc = .ok (.if_icmp .ge off, 3)) (h : y ≤ x) (ht : (pc : Int) + off = (tgt : Int)) (k : W p l e R s m args below meth c H locs cells slots Q (F0 m tgt ls rest)) : W p l e R s m args below meth c H locs cells slots Q (F0 m pc ls (.int y :: .int x :: rest)) := lv_icmp_ge hx hb d ht (fun _ => k) (fun q => absurd h q)
theorem k_icmp_ge_f (hx : p.tables.exec = Jvm.exec) (hb : c.code = cc) {x y : Int32} {off : Int} {tgt : Nat} (d : decode cc pc = .ok (.if_icmp .ge off, 3)) (h : ¬ y ≤ x) (ht : (pc : Int) + off = (tgt : Int)) (k : W p l e R s m args below meth c H locs cells slots Q (F0 m (pc + 3) ls rest)) : W p l e R s m args below meth c H locs cells slots Q (F0 m pc ls (.int y :: .int x :: rest)) := lv_icmp_ge hx hb d ht (fun q => absurd q h) (fun _ => k)
theorem k_if_gt_t (hx : p.tables.exec = Jvm.exec) (hb : c.code = cc) {x : Int32} {off : Int} {tgt : Nat} (d : decode cc pc = .ok (.ifCond .gt off, 3)) (h : 0 < x) (ht : (pc : Int) + off = (tgt : Int)) (k : W p l e R s m args below meth c H locs cells slots Q (F0 m tgt ls rest)) : W p l e R s m args below meth c H locs cells slots Q (F0 m pc ls (.int x :: rest)) := lv_if_gt hx hb d ht (fun _ => k) (fun q => absurd h q)
theorem k_if_gt_f (hx : p.tables.exec = Jvm.exec) (hb : c.code = cc) {x : Int32} {off : Int} {tgt : Nat} (d : decode cc pc = .ok (.ifCond .gt off, 3)) (h : ¬ 0 < x) (ht : (pc : Int) + off = (tgt : Int)) (k : W p l e R s m args below meth c H locs cells slots Q (F0 m (pc + 3) ls rest)) : W p l e R s m args below meth c H locs cells slots Q (F0 m pc ls (.int x :: rest)) := lv_if_gt hx hb d ht (fun q => absurd q h) (fun _ => k)
theorem k_icmp_gt_t (hx : p.tables.exec = Jvm.exec) (hb : c.code = cc) {x y : Int32} {off : Int} {tgt : Nat} (d : decode cc pc = .ok (.if_icmp .gt off, 3)) (h : y < x) (ht : (pc : Int) + off = (tgt : Int)) (k : W p l e R s m args below meth c H locs cells slots Q (F0 m tgt ls rest)) : W p l e R s m args below meth c H locs cells slots Q (F0 m pc ls (.int y :: .int x :: rest)) := lv_icmp_gt hx hb d ht (fun _ => k) (fun q => absurd h q)
theorem k_icmp_gt_f (hx : p.tables.exec = Jvm.exec) (hb : c.code = cc) {x y : Int32} {off : Int} {tgt : Nat} (d : decode cc pc = .ok (.if_icmp .gt off, 3)) (h : ¬ y < x) (ht : (pc : Int) + off = (tgt : Int)) (k : W p l e R s m args below meth c H locs cells slots Q (F0 m (pc + 3) ls rest)) : W p l e R s m args below meth c H locs cells slots Q (F0 m pc ls (.int y :: .int x :: rest)) := lv_icmp_gt hx hb d ht (fun q => absurd q h) (fun _ => k)
theorem k_if_le_t (hx : p.tables.exec = Jvm.exec) (hb : c.code = cc) {x : Int32} {off : Int} {tgt : Nat} (d : decode cc pc = .ok (.ifCond .le off, 3)) (h : x ≤ 0) (ht : (pc : Int) + off = (tgt : Int)) (k : W p l e R s m args below meth c H locs cells slots Q (F0 m tgt ls rest)) : W p l e R s m args below meth c H locs cells slots Q (F0 m pc ls (.int x :: rest)) := lv_if_le hx hb d ht (fun _ => k) (fun q => absurd h q)
theorem k_if_le_f (hx : p.tables.exec = Jvm.exec) (hb : c.code = cc) {x : Int32} {off : Int} {tgt : Nat} (d : decode cc pc = .ok (.ifCond .le off, 3)) (h : ¬ x ≤ 0) (ht : (pc : Int) + off = (tgt : Int)) (k : W p l e R s m args below meth c H locs cells slots Q (F0 m (pc + 3) ls rest)) : W p l e R s m args below meth c H locs cells slots Q (F0 m pc ls (.int x :: rest)) := lv_if_le hx hb d ht (fun q => absurd q h) (fun _ => k)
theorem k_icmp_le_t (hx : p.tables.exec = Jvm.exec) (hb : c.code = cc) {x y : Int32} {off : Int} {tgt : Nat} (d : decode cc pc = .ok (.if_icmp .le off, 3)) (h : x ≤ y) (ht : (pc : Int) + off = (tgt : Int)) (k : W p l e R s m args below meth c H locs cells slots Q (F0 m tgt ls rest)) : W p l e R s m args below meth c H locs cells slots Q (F0 m pc ls (.int y :: .int x :: rest)) := lv_icmp_le hx hb d ht (fun _ => k) (fun q => absurd h q)
theorem k_icmp_le_f (hx : p.tables.exec = Jvm.exec) (hb : c.code = cc) {x y : Int32} {off : Int} {tgt : Nat} (d : decode cc pc = .ok (.if_icmp .le off, 3)) (h : ¬ x ≤ y) (ht : (pc : Int) + off = (tgt : Int)) (k : W p l e R s m args below meth c H locs cells slots Q (F0 m (pc + 3) ls rest)) : W p l e R s m args below meth c H locs cells slots Q (F0 m pc ls (.int y :: .int x :: rest)) := lv_icmp_le hx hb d ht (fun q => absurd q h) (fun _ => k)
theorem k_acmp_eq_t (hx : p.tables.exec = Jvm.exec) (hb : c.code = cc) {x y : Nat} {off : Int} {tgt : Nat} (d : decode cc pc = .ok (.if_acmp .eq off, 3)) (h : x = y) (ht : (pc : Int) + off = (tgt : Int)) (k : W p l e R s m args below meth c H locs cells slots Q (F0 m tgt ls rest)) : W p l e R s m args below meth c H locs cells slots Q (F0 m pc ls (.ref y :: .ref x :: rest)) := lv_acmp_eq (rx := some x) (ry := some y) hx hb d ht (fun _ => k) (fun q => absurd (by rw [h]) q)
theorem k_get (hx : p.tables.exec = Jvm.exec) (hb : c.code = cc) {own C : String} {T : u_T} {N ci index : Nat} (hG : ∀ w ∈ GW, w.before args s = true) (hin : ∀ w ∈ u_ws C T N, w ∈ GW) (hown : s.vm.findClass own = some m.cls) (hK : va_K D vwCl (TYS cA) s) (hP : va_P D vwCl ws H) (q0 : Nat) {fs : List Value} (he : ws[q0]? = some (a, .inr (ci, fs))) (hc : vwCl[ci]? = some (C, T, N)) (k : Nat) (hk : k < N) (hlink : Cond.fieldLink own index (T k).1 (T k).2.1 (T k).2.2.1 ∈ GW) {v : Value} (hv : fs[k]? = some v) (d : decode cc pc = .ok (.getfield index, 3))
    (kk : W p l e R s m args below meth c H locs cells slots Q (F0 m (pc + 3) ls (v :: rest))) : W p l e R s m args below meth c H locs cells slots Q (F0 m pc ls (.ref a :: rest)) := va_get hx hb hG hin hown hK hP q0 he hc k hk (hG _ hlink) (fun _ h => h) hv d kk
theorem k_getR (hx : p.tables.exec = Jvm.exec) (hb : c.code = cc) {own ref C : String} {T : u_T} {N ci index : Nat} (hG : ∀ w ∈ GW, w.before args s = true) (hin : ∀ w ∈ u_ws C T N, w ∈ GW) (hown : s.vm.findClass own = some m.cls) (hK : va_K D vwCl (TYS cA) s) (hP : va_P D vwCl ws H) (q0 : Nat) {fs : List Value} (he : ws[q0]? = some (a, .inr (ci, fs))) (hc : vwCl[ci]? = some (C, T, N)) (k : Nat) (hk : k < N) (hlink : Cond.fieldLink own index ref (T k).2.1 (T k).2.2.1 ∈ GW) (hsame : Cond.sameField ref (T k).1 (T k).2.1 (T k).2.2.1 ∈ GW) {v : Value} (hv : fs[k]? = some v) (d : decode cc pc = .ok (.getfield index, 3))
    (kk : W p l e R s m args below meth c H locs cells slots Q (F0 m (pc + 3) ls (v :: rest))) : W p l e R s m args below meth c H locs cells slots Q (F0 m pc ls (.ref a :: rest)) := va_get hx hb hG hin hown hK hP q0 he hc k hk (hG _ hlink) (u_same (hG _ hsame)) hv d kk
theorem k_getN (hx : p.tables.exec = Jvm.exec) (hb : c.code = cc) {own C host : String} {T : u_T} {N ci index : Nat} (hG : ∀ w ∈ GW, w.before args s = true) (hin : ∀ w ∈ u_ws C T N, w ∈ GW) (hown : s.vm.findClass own = some m.cls) (hK : va_K D vwCl (TYS cA) s) (hP : va_P D vwCl ws H) (hN : ∀ w ∈ NW, va_Nw w s) (q0 : Nat) {fs : List Value} (he : ws[q0]? = some (a, .inr (ci, fs))) (hc : vwCl[ci]? = some (C, T, N)) (k : Nat) (hk : k < N) (hlink : Cond.fieldLinkNest own index (T k).1 (T k).2.1 (T k).2.2.1 host ∈ NW) {v : Value} (hv : fs[k]? = some v) (d : decode cc pc = .ok (.getfield index, 3))
    (kk : W p l e R s m args below meth c H locs cells slots Q (F0 m (pc + 3) ls (v :: rest))) : W p l e R s m args below meth c H locs cells slots Q (F0 m pc ls (.ref a :: rest)) := va_getN hx hb hG hin hown hK hP q0 he hc k hk (va_Nw.use rfl (hN _ hlink)) (fun _ h => h) hv d kk
theorem k_put (hx : p.tables.exec = Jvm.exec) (hb : c.code = cc) {own C : String} {T : u_T} {N ci index : Nat} (hG : ∀ w ∈ GW, w.before args s = true) (hin : ∀ w ∈ u_ws C T N, w ∈ GW) (ty0 : Nat → FieldType) (hty : ∀ k, k < N → parseFieldDescriptor (T k).2.2.1 = some (ty0 k)) (hnm : ∀ a, a < N → ∀ b, b < N → a ≠ b → (T a).2.1 ≠ (T b).2.1) (hown : s.vm.findClass own = some m.cls) (hK : va_K D vwCl (TYS cA) s) (hP : va_P D vwCl ws H) (hD : va_D A ws) (hS : va_S A s.heap H locs) (q0 : Nat) {fs : List Value} (he : ws[q0]? = some (a, .inr (ci, fs))) (hc : vwCl[ci]? = some (C, T, N)) (k : Nat) (hk : k < N) (hlink : Cond.fieldLink own index (T k).1 (T k).2.1 (T k).2.2.1 ∈ GW) (hfin : (T k).2.2.2 = false) {v : Value} (hfit : narrow (ty0 k) v = v ∧ fits (ty0 k) v = true) {ws1 : va_W} (hw : ws.set q0 (a, .inr (ci, fs.set k v)) = ws1) (hl : k < fs.length) (d : decode cc pc = .ok (.putfield index, 3))
    (kk : ∀ (H1 : Heap) (locs1 : List Loc), va_P D vwCl ws1 H1 → va_D A ws1 → va_S A s.heap H1 locs1 → W p l e R s m args below meth c H1 locs1 cells slots Q (F0 m (pc + 3) ls rest)) : W p l e R s m args below meth c H locs cells slots Q (F0 m pc ls (v :: .ref a :: rest)) := by
  subst hw
  exact va_put hx hb hG hin ty0 hty hnm hown hK hP hD hS q0 he hc k hk (hG _ hlink) (fun _ h => h) hfin (hty k hk) hfit.1 hfit.2 hl d kk
theorem k_putF (hx : p.tables.exec = Jvm.exec) (hb : c.code = cc) {own C : String} {T : u_T} {N ci index : Nat} (hG : ∀ w ∈ GW, w.before args s = true) (hin : ∀ w ∈ u_ws C T N, w ∈ GW) (ty0 : Nat → FieldType) (hty : ∀ k, k < N → parseFieldDescriptor (T k).2.2.1 = some (ty0 k)) (hnm : ∀ a, a < N → ∀ b, b < N → a ≠ b → (T a).2.1 ≠ (T b).2.1) (hown : s.vm.findClass own = some m.cls) (hK : va_K D vwCl (TYS cA) s) (hP : va_P D vwCl ws H) (hD : va_D A ws) (hS : va_S A s.heap H locs) (q0 : Nat) {fs : List Value} (he : ws[q0]? = some (a, .inr (ci, fs))) (hc : vwCl[ci]? = some (C, T, N)) (k : Nat) (hk : k < N) (hlink : Cond.fieldLink own index (T k).1 (T k).2.1 (T k).2.2.1 ∈ GW) (hfin : (T k).2.2.2 = true) (hin2 : meth.name = "<init>") (hdecl : (T k).1 = own) {v : Value} (hfit : narrow (ty0 k) v = v ∧ fits (ty0 k) v = true) {ws1 : va_W} (hw : ws.set q0 (a, .inr (ci, fs.set k v)) = ws1) (hl : k < fs.length) (d : decode cc pc = .ok (.putfield index, 3))
    (kk : ∀ (H1 : Heap) (locs1 : List Loc), va_P D vwCl ws1 H1 → va_D A ws1 → va_S A s.heap H1 locs1 → W p l e R s m args below meth c H1 locs1 cells slots Q (F0 m (pc + 3) ls rest)) : W p l e R s m args below meth c H locs cells slots Q (F0 m pc ls (v :: .ref a :: rest)) := by
  subst hw
  exact va_putF hx hb hG hin ty0 hty hnm hown hK hP hD hS q0 he hc k hk (hG _ hlink) (fun _ h => h) hfin hin2 hdecl (hty k hk) hfit.1 hfit.2 hl d kk
theorem k_putN (hx : p.tables.exec = Jvm.exec) (hb : c.code = cc) {own C host : String} {T : u_T} {N ci index : Nat} (hG : ∀ w ∈ GW, w.before args s = true) (hin : ∀ w ∈ u_ws C T N, w ∈ GW) (ty0 : Nat → FieldType) (hty : ∀ k, k < N → parseFieldDescriptor (T k).2.2.1 = some (ty0 k)) (hnm : ∀ a, a < N → ∀ b, b < N → a ≠ b → (T a).2.1 ≠ (T b).2.1) (hown : s.vm.findClass own = some m.cls) (hK : va_K D vwCl (TYS cA) s) (hP : va_P D vwCl ws H) (hD : va_D A ws) (hS : va_S A s.heap H locs) (q0 : Nat) {fs : List Value} (he : ws[q0]? = some (a, .inr (ci, fs))) (hc : vwCl[ci]? = some (C, T, N)) (k : Nat) (hk : k < N) (hN : ∀ w ∈ NW, va_Nw w s) (hlink : Cond.fieldLinkNest own index (T k).1 (T k).2.1 (T k).2.2.1 host ∈ NW) (hfin : (T k).2.2.2 = false) {v : Value} (hfit : narrow (ty0 k) v = v ∧ fits (ty0 k) v = true) {ws1 : va_W} (hw : ws.set q0 (a, .inr (ci, fs.set k v)) = ws1) (hl : k < fs.length) (d : decode cc pc = .ok (.putfield index, 3))
    (kk : ∀ (H1 : Heap) (locs1 : List Loc), va_P D vwCl ws1 H1 → va_D A ws1 → va_S A s.heap H1 locs1 → W p l e R s m args below meth c H1 locs1 cells slots Q (F0 m (pc + 3) ls rest)) : W p l e R s m args below meth c H locs cells slots Q (F0 m pc ls (v :: .ref a :: rest)) := by
  subst hw
  exact va_putN hx hb hG hin ty0 hty hnm hown hK hP hD hS q0 he hc k hk (va_Nw.use rfl (hN _ hlink)) (fun _ h => h) hfin (hty k hk) hfit.1 hfit.2 hl d kk
theorem k_putR (hx : p.tables.exec = Jvm.exec) (hb : c.code = cc) {own ref C : String} {T : u_T} {N ci index : Nat} (hG : ∀ w ∈ GW, w.before args s = true) (hin : ∀ w ∈ u_ws C T N, w ∈ GW) (ty0 : Nat → FieldType) (hty : ∀ k, k < N → parseFieldDescriptor (T k).2.2.1 = some (ty0 k)) (hnm : ∀ a, a < N → ∀ b, b < N → a ≠ b → (T a).2.1 ≠ (T b).2.1) (hown : s.vm.findClass own = some m.cls) (hK : va_K D vwCl (TYS cA) s) (hP : va_P D vwCl ws H) (hD : va_D A ws) (hS : va_S A s.heap H locs) (q0 : Nat) {fs : List Value} (he : ws[q0]? = some (a, .inr (ci, fs))) (hc : vwCl[ci]? = some (C, T, N)) (k : Nat) (hk : k < N) (hlink : Cond.fieldLink own index ref (T k).2.1 (T k).2.2.1 ∈ GW) (hsame : Cond.sameField ref (T k).1 (T k).2.1 (T k).2.2.1 ∈ GW) (hfin : (T k).2.2.2 = false) {v : Value} (hfit : narrow (ty0 k) v = v ∧ fits (ty0 k) v = true) {ws1 : va_W} (hw : ws.set q0 (a, .inr (ci, fs.set k v)) = ws1) (hl : k < fs.length) (d : decode cc pc = .ok (.putfield index, 3))
    (kk : ∀ (H1 : Heap) (locs1 : List Loc), va_P D vwCl ws1 H1 → va_D A ws1 → va_S A s.heap H1 locs1 → W p l e R s m args below meth c H1 locs1 cells slots Q (F0 m (pc + 3) ls rest)) : W p l e R s m args below meth c H locs cells slots Q (F0 m pc ls (v :: .ref a :: rest)) := by
  subst hw
  exact va_put hx hb hG hin ty0 hty hnm hown hK hP hD hS q0 he hc k hk (hG _ hlink) (u_same (hG _ hsame)) hfin (hty k hk) hfit.1 hfit.2 hl d kk
theorem k_new (hx : p.tables.exec = Jvm.exec) (hb : c.code = cc) {own C : String} {T : u_T} {N ci index : Nat} (hG : ∀ w ∈ GW, w.before args s = true) (hin : ∀ w ∈ u_ws C T N, w ∈ GW) (ty : Nat → FieldType) (hty : ∀ k, k < N → parseFieldDescriptor (T k).2.2.1 = some (ty k)) (hown : s.vm.findClass own = some m.cls) (hcl : Cond.classLink own index C ∈ GW) (hinst : Cond.instantiable C N ∈ GW) (hini : Cond.initialized C ∈ GW) (hK : va_K D vwCl (TYS cA) s) (hP : va_P D vwCl ws H) (hD : va_D A ws) (hS : va_S A s.heap H locs) (hA : ∀ q, s.heap.size ≤ q → A q) (hc : vwCl[ci]? = some (C, T, N)) (fs : List Value) (hfs : (List.range N).map (fun j => defaultValue (ty j)) = fs) (hcells : cells + 1 ≤ R.cells) (hslots : slots + N ≤ R.slots) (d : decode cc pc = .ok (.new index, 3))
    (kk : ∀ (q : Nat) (H1 : Heap), va_P D vwCl (ws ++ [(q, .inr (ci, fs))]) H1 → va_D A (ws ++ [(q, .inr (ci, fs))]) → va_S A s.heap H1 locs → W p l e R s m args below meth c H1 locs (cells + 1) (slots + N) Q (F0 m (pc + 3) ls (.ref q :: rest))) : W p l e R s m args below meth c H locs cells slots Q (F0 m pc ls rest) := by
  refine va_new hx hb hG hin ty hty hown (hG _ hcl) (hG _ hinst) (hG _ hini) hK hP hD hS hA hc (fun j hj => ?_) hcells hslots d kk
  subst hfs
  simp [vp_V, hj]
theorem k_newa_int (hx : p.tables.exec = Jvm.exec) (hb : c.code = cc) (hG : ∀ w ∈ GW, w.before args s = true) (harr : Cond.arrayClass .int ∈ GW) (hK : va_K D vwCl (TYS cA) s) (hP : va_P D vwCl ws H) (hD : va_D A ws) (hS : va_S A s.heap H locs) (hA : ∀ q, s.heap.size ≤ q → A q) {n : Int32} (N' : Nat) (hn : ¬ n < 0) (hN : n.toNatClampNeg = N') (hbytes : N' * componentBytes .int ≤ 536870912) (hcells : cells + 1 ≤ R.cells) (hslots : slots + N' ≤ R.slots) (d : decode cc pc = .ok (.newarray .int, 2))
    (kk : ∀ (q : Nat) (H1 : Heap), va_P D vwCl (ws ++ [(q, .inl (cA 0, N', .inl (fun _ => 0)))]) H1 → va_D A (ws ++ [(q, .inl (cA 0, N', .inl (fun _ => 0)))]) → va_S A s.heap H1 locs → W p l e R s m args below meth c H1 locs (cells + 1) (slots + N') Q (F0 m (pc + 2) ls (.ref q :: rest))) : W p l e R s m args below meth c H locs cells slots Q (F0 m pc ls (.int n :: rest)) := by
  refine va_newa (atype := .int) (ty := .int) (a0 := (N', .inl (fun _ => 0))) hx hb (hG _ harr) rfl hK hP hD hS hA (fun _ => rfl) hn hN hbytes hcells hslots d (fun q c1 H1 hK1 hP1 hD1 hS1 => ?_)
  have e1 : s.vm.findClass _ = some c1 := (hK1.2 6 (c1, .int) rfl).2
  have e2 : s.vm.findClass _ = some (cA 0) := (hK.2 0 (cA 0, .int) rfl).2
  cases Option.some.inj (e1.symm.trans e2)
  exact kk q H1 hP1 hD1 hS1
theorem k_newa_long (hx : p.tables.exec = Jvm.exec) (hb : c.code = cc) (hG : ∀ w ∈ GW, w.before args s = true) (harr : Cond.arrayClass .long ∈ GW) (hK : va_K D vwCl (TYS cA) s) (hP : va_P D vwCl ws H) (hD : va_D A ws) (hS : va_S A s.heap H locs) (hA : ∀ q, s.heap.size ≤ q → A q) {n : Int32} (N' : Nat) (hn : ¬ n < 0) (hN : n.toNatClampNeg = N') (hbytes : N' * componentBytes .long ≤ 536870912) (hcells : cells + 1 ≤ R.cells) (hslots : slots + N' ≤ R.slots) (d : decode cc pc = .ok (.newarray .long, 2))
    (kk : ∀ (q : Nat) (H1 : Heap), va_P D vwCl (ws ++ [(q, .inl (cA 1, N', .inr (.inl (fun _ => 0))))]) H1 → va_D A (ws ++ [(q, .inl (cA 1, N', .inr (.inl (fun _ => 0))))]) → va_S A s.heap H1 locs → W p l e R s m args below meth c H1 locs (cells + 1) (slots + N') Q (F0 m (pc + 2) ls (.ref q :: rest))) : W p l e R s m args below meth c H locs cells slots Q (F0 m pc ls (.int n :: rest)) := by
  refine va_newa (atype := .long) (ty := .long) (a0 := (N', .inr (.inl (fun _ => 0)))) hx hb (hG _ harr) rfl hK hP hD hS hA (fun _ => rfl) hn hN hbytes hcells hslots d (fun q c1 H1 hK1 hP1 hD1 hS1 => ?_)
  have e1 : s.vm.findClass _ = some c1 := (hK1.2 6 (c1, .long) rfl).2
  have e2 : s.vm.findClass _ = some (cA 1) := (hK.2 1 (cA 1, .long) rfl).2
  cases Option.some.inj (e1.symm.trans e2)
  exact kk q H1 hP1 hD1 hS1
theorem k_newa_char (hx : p.tables.exec = Jvm.exec) (hb : c.code = cc) (hG : ∀ w ∈ GW, w.before args s = true) (harr : Cond.arrayClass .char ∈ GW) (hK : va_K D vwCl (TYS cA) s) (hP : va_P D vwCl ws H) (hD : va_D A ws) (hS : va_S A s.heap H locs) (hA : ∀ q, s.heap.size ≤ q → A q) {n : Int32} (N' : Nat) (hn : ¬ n < 0) (hN : n.toNatClampNeg = N') (hbytes : N' * componentBytes .char ≤ 536870912) (hcells : cells + 1 ≤ R.cells) (hslots : slots + N' ≤ R.slots) (d : decode cc pc = .ok (.newarray .char, 2))
    (kk : ∀ (q : Nat) (H1 : Heap), va_P D vwCl (ws ++ [(q, .inl (cA 2, N', .inl (fun _ => 0)))]) H1 → va_D A (ws ++ [(q, .inl (cA 2, N', .inl (fun _ => 0)))]) → va_S A s.heap H1 locs → W p l e R s m args below meth c H1 locs (cells + 1) (slots + N') Q (F0 m (pc + 2) ls (.ref q :: rest))) : W p l e R s m args below meth c H locs cells slots Q (F0 m pc ls (.int n :: rest)) := by
  refine va_newa (atype := .char) (ty := .char) (a0 := (N', .inl (fun _ => 0))) hx hb (hG _ harr) rfl hK hP hD hS hA (fun _ => rfl) hn hN hbytes hcells hslots d (fun q c1 H1 hK1 hP1 hD1 hS1 => ?_)
  have e1 : s.vm.findClass _ = some c1 := (hK1.2 6 (c1, .char) rfl).2
  have e2 : s.vm.findClass _ = some (cA 2) := (hK.2 2 (cA 2, .char) rfl).2
  cases Option.some.inj (e1.symm.trans e2)
  exact kk q H1 hP1 hD1 hS1
theorem k_newa_boolean (hx : p.tables.exec = Jvm.exec) (hb : c.code = cc) (hG : ∀ w ∈ GW, w.before args s = true) (harr : Cond.arrayClass .boolean ∈ GW) (hK : va_K D vwCl (TYS cA) s) (hP : va_P D vwCl ws H) (hD : va_D A ws) (hS : va_S A s.heap H locs) (hA : ∀ q, s.heap.size ≤ q → A q) {n : Int32} (N' : Nat) (hn : ¬ n < 0) (hN : n.toNatClampNeg = N') (hbytes : N' * componentBytes .boolean ≤ 536870912) (hcells : cells + 1 ≤ R.cells) (hslots : slots + N' ≤ R.slots) (d : decode cc pc = .ok (.newarray .boolean, 2))
    (kk : ∀ (q : Nat) (H1 : Heap), va_P D vwCl (ws ++ [(q, .inl (cA 3, N', .inl (fun _ => 0)))]) H1 → va_D A (ws ++ [(q, .inl (cA 3, N', .inl (fun _ => 0)))]) → va_S A s.heap H1 locs → W p l e R s m args below meth c H1 locs (cells + 1) (slots + N') Q (F0 m (pc + 2) ls (.ref q :: rest))) : W p l e R s m args below meth c H locs cells slots Q (F0 m pc ls (.int n :: rest)) := by
  refine va_newa (atype := .boolean) (ty := .boolean) (a0 := (N', .inl (fun _ => 0))) hx hb (hG _ harr) rfl hK hP hD hS hA (fun _ => rfl) hn hN hbytes hcells hslots d (fun q c1 H1 hK1 hP1 hD1 hS1 => ?_)
  have e1 : s.vm.findClass _ = some c1 := (hK1.2 6 (c1, .boolean) rfl).2
  have e2 : s.vm.findClass _ = some (cA 3) := (hK.2 3 (cA 3, .boolean) rfl).2
  cases Option.some.inj (e1.symm.trans e2)
  exact kk q H1 hP1 hD1 hS1
theorem k_iald (hx : p.tables.exec = Jvm.exec) (hb : c.code = cc) (hK : va_K D vwCl (TYS cA) s) (hP : va_P D vwCl ws H) (q0 : Nat) {n : Nat} {f : Nat → Int32} (ha : ws[q0]? = some (a, .inl (cA 0, n, .inl f))) {i : Int32} (j : Nat) {v : Int32} (hj : i.toNatClampNeg = j) (hv : f j = v) (hin : vp_in i n) (d : decode cc pc = .ok (.iaload, 1)) (kk : W p l e R s m args below meth c H locs cells slots Q (F0 m (pc + 1) ls (.int v :: rest))) : W p l e R s m args below meth c H locs cells slots Q (F0 m pc ls (.int i :: .ref a :: rest)) := va_iald hx hb hK hP q0 0 ha rfl hin d (by rw [hj, hv]; exact kk)
theorem k_lald (hx : p.tables.exec = Jvm.exec) (hb : c.code = cc) (hK : va_K D vwCl (TYS cA) s) (hP : va_P D vwCl ws H) (q0 : Nat) {n : Nat} {f : Nat → Int64} (ha : ws[q0]? = some (a, .inl (cA 1, n, .inr (.inl f)))) {i : Int32} (j : Nat) {v : Int64} (hj : i.toNatClampNeg = j) (hv : f j = v) (hin : vp_in i n) (d : decode cc pc = .ok (.laload, 1)) (kk : W p l e R s m args below meth c H locs cells slots Q (F0 m (pc + 1) ls (.long v :: rest))) : W p l e R s m args below meth c H locs cells slots Q (F0 m pc ls (.int i :: .ref a :: rest)) := va_lald hx hb hK hP q0 1 ha rfl hin d (by rw [hj, hv]; exact kk)
theorem k_cald (hx : p.tables.exec = Jvm.exec) (hb : c.code = cc) (hK : va_K D vwCl (TYS cA) s) (hP : va_P D vwCl ws H) (q0 : Nat) {n : Nat} {f : Nat → Int32} (ha : ws[q0]? = some (a, .inl (cA 2, n, .inl f))) {i : Int32} (j : Nat) {v : Int32} (hj : i.toNatClampNeg = j) (hv : f j = v) (hin : vp_in i n) (d : decode cc pc = .ok (.caload, 1)) (kk : W p l e R s m args below meth c H locs cells slots Q (F0 m (pc + 1) ls (.int v :: rest))) : W p l e R s m args below meth c H locs cells slots Q (F0 m pc ls (.int i :: .ref a :: rest)) := va_cald hx hb hK hP q0 2 ha rfl hin d (by rw [hj, hv]; exact kk)
theorem k_zald (hx : p.tables.exec = Jvm.exec) (hb : c.code = cc) (hK : va_K D vwCl (TYS cA) s) (hP : va_P D vwCl ws H) (q0 : Nat) {n : Nat} {f : Nat → Int32} (ha : ws[q0]? = some (a, .inl (cA 3, n, .inl f))) {i : Int32} (j : Nat) {v : Int32} (hj : i.toNatClampNeg = j) (hv : f j = v) (hin : vp_in i n) (d : decode cc pc = .ok (.baload, 1)) (kk : W p l e R s m args below meth c H locs cells slots Q (F0 m (pc + 1) ls (.int v :: rest))) : W p l e R s m args below meth c H locs cells slots Q (F0 m pc ls (.int i :: .ref a :: rest)) := va_zald hx hb hK hP q0 3 ha rfl hin d (by rw [hj, hv]; exact kk)
theorem k_iast (hx : p.tables.exec = Jvm.exec) (hb : c.code = cc) (hK : va_K D vwCl (TYS cA) s) (hP : va_P D vwCl ws H) (hD : va_D A ws) (hS : va_S A s.heap H locs) (q0 : Nat) {n : Nat} {f : Nat → Int32} (ha : ws[q0]? = some (a, .inl (cA 0, n, .inl f))) {i : Int32} {x : Int32} {ws1 : va_W} (hw : ws.set q0 (a, .inl (cA 0, n, .inl (upd f i.toNatClampNeg x))) = ws1) (hin : vp_in i n) (d : decode cc pc = .ok (.iastore, 1))
    (kk : ∀ (H1 : Heap) (locs1 : List Loc), va_P D vwCl ws1 H1 → va_D A ws1 → va_S A s.heap H1 locs1 → W p l e R s m args below meth c H1 locs1 cells slots Q (F0 m (pc + 1) ls rest)) : W p l e R s m args below meth c H locs cells slots Q (F0 m pc ls (.int x :: .int i :: .ref a :: rest)) := by
  subst hw
  exact va_iast hx hb hK hP hD hS q0 0 ha rfl hin d kk
theorem k_last (hx : p.tables.exec = Jvm.exec) (hb : c.code = cc) (hK : va_K D vwCl (TYS cA) s) (hP : va_P D vwCl ws H) (hD : va_D A ws) (hS : va_S A s.heap H locs) (q0 : Nat) {n : Nat} {f : Nat → Int64} (ha : ws[q0]? = some (a, .inl (cA 1, n, .inr (.inl f)))) {i : Int32} {x : Int64} {ws1 : va_W} (hw : ws.set q0 (a, .inl (cA 1, n, .inr (.inl (vp_updL f i.toNatClampNeg x)))) = ws1) (hin : vp_in i n) (d : decode cc pc = .ok (.lastore, 1))
    (kk : ∀ (H1 : Heap) (locs1 : List Loc), va_P D vwCl ws1 H1 → va_D A ws1 → va_S A s.heap H1 locs1 → W p l e R s m args below meth c H1 locs1 cells slots Q (F0 m (pc + 1) ls rest)) : W p l e R s m args below meth c H locs cells slots Q (F0 m pc ls (.long x :: .int i :: .ref a :: rest)) := by
  subst hw
  exact va_last hx hb hK hP hD hS q0 1 ha rfl hin d kk
theorem k_cast (hx : p.tables.exec = Jvm.exec) (hb : c.code = cc) (hK : va_K D vwCl (TYS cA) s) (hP : va_P D vwCl ws H) (hD : va_D A ws) (hS : va_S A s.heap H locs) (q0 : Nat) {n : Nat} {f : Nat → Int32} (ha : ws[q0]? = some (a, .inl (cA 2, n, .inl f))) {i : Int32} {x : Int32} {ws1 : va_W} (hw : ws.set q0 (a, .inl (cA 2, n, .inl (upd f i.toNatClampNeg (vp_nar .char x)))) = ws1) (hin : vp_in i n) (d : decode cc pc = .ok (.castore, 1))
    (kk : ∀ (H1 : Heap) (locs1 : List Loc), va_P D vwCl ws1 H1 → va_D A ws1 → va_S A s.heap H1 locs1 → W p l e R s m args below meth c H1 locs1 cells slots Q (F0 m (pc + 1) ls rest)) : W p l e R s m args below meth c H locs cells slots Q (F0 m pc ls (.int x :: .int i :: .ref a :: rest)) := by
  subst hw
  exact va_cast hx hb hK hP hD hS q0 2 ha rfl hin d kk
theorem k_zast (hx : p.tables.exec = Jvm.exec) (hb : c.code = cc) (hK : va_K D vwCl (TYS cA) s) (hP : va_P D vwCl ws H) (hD : va_D A ws) (hS : va_S A s.heap H locs) (q0 : Nat) {n : Nat} {f : Nat → Int32} (ha : ws[q0]? = some (a, .inl (cA 3, n, .inl f))) {i : Int32} {x : Int32} {ws1 : va_W} (hw : ws.set q0 (a, .inl (cA 3, n, .inl (upd f i.toNatClampNeg (vp_nar .boolean x)))) = ws1) (hin : vp_in i n) (d : decode cc pc = .ok (.bastore, 1))
    (kk : ∀ (H1 : Heap) (locs1 : List Loc), va_P D vwCl ws1 H1 → va_D A ws1 → va_S A s.heap H1 locs1 → W p l e R s m args below meth c H1 locs1 cells slots Q (F0 m (pc + 1) ls rest)) : W p l e R s m args below meth c H locs cells slots Q (F0 m pc ls (.int x :: .int i :: .ref a :: rest)) := by
  subst hw
  exact va_zast hx hb hK hP hD hS q0 3 ha rfl hin d kk
theorem k_alen (hx : p.tables.exec = Jvm.exec) (hb : c.code = cc) (hK : va_K D vwCl (TYS cA) s) (hP : va_P D vwCl ws H) (q0 t0 : Nat) {cc0 : ClassId} {x : vp_A} (ha : ws[q0]? = some (a, .inl (cc0, x))) {ty : FieldType} (ht : (TYS cA)[t0]? = some (cc0, ty)) {v : Int32} (hv : Int32.ofNat x.1 = v) (d : decode cc pc = .ok (.arraylength, 1)) (kk : W p l e R s m args below meth c H locs cells slots Q (F0 m (pc + 1) ls (.int v :: rest))) : W p l e R s m args below meth c H locs cells slots Q (F0 m pc ls (.ref a :: rest)) := va_alen hx hb hK hP q0 t0 ha ht hv d kk
theorem k_ldcS (hx : p.tables.exec = Jvm.exec) (hb : c.code = cc) {g : gv_T} (hGV : GV g A s s.heap) {own tx : String} {index : Nat} (i : Nat) (hi : STR[i]? = some (own, index, tx)) (hown : s.vm.findClass own = some m.cls) (d : decode cc pc = .ok (.ldc index, 2)) (kk : W p l e R s m args below meth c H locs cells slots Q (F0 m (pc + 2) ls (.ref (g.1 i) :: rest))) : W p l e R s m args below meth c H locs cells slots Q (F0 m pc ls rest) := va_ldcS hx hb hown (hGV.str i _ hi) d kk
theorem k_getsC (hx : p.tables.exec = Jvm.exec) (hb : c.code = cc) {g : gv_T} (hGV : GV g A s s.heap) (hG : ∀ w ∈ GW, w.before args s = true) (hS : va_S A s.heap H locs) {own : String} {index : Nat} (hown : s.vm.findClass own = some m.cls) (hlink : Cond.fieldLink own index "java/lang/String" "COMPACT_STRINGS" "Z" ∈ GW) (d : decode cc pc = .ok (.getstatic index, 3)) (kk : W p l e R s m args below meth c H locs cells slots Q (F0 m (pc + 3) ls (.int 1 :: rest))) : W p l e R s m args below meth c H locs cells slots Q (F0 m pc ls rest) := va_gets hx hb hGV.cs hS hown (hG _ hlink) (fun _ h => h) d kk
theorem k_getsF (hx : p.tables.exec = Jvm.exec) (hb : c.code = cc) {g : gv_T} (hGV : GV g A s s.heap) (hG : ∀ w ∈ GW, w.before args s = true) (hS : va_S A s.heap H locs) {own : String} {index : Nat} (hown : s.vm.findClass own = some m.cls) (hlink : Cond.fieldLink own index "jdk/internal/util/Preconditions" "SIOOBE_FORMATTER" "Ljava/util/function/BiFunction;" ∈ GW) (d : decode cc pc = .ok (.getstatic index, 3)) (kk : W p l e R s m args below meth c H locs cells slots Q (F0 m (pc + 3) ls (g.2.2.1 :: rest))) : W p l e R s m args below meth c H locs cells slots Q (F0 m pc ls rest) := va_gets hx hb hGV.si hS hown (hG _ hlink) (fun _ h => h) d kk
theorem k_slen (hx : p.tables.exec = Jvm.exec) (hb : c.code = cc) {g : gv_T} (hGV : GV g A s s.heap) {x9 : Nat × Nat × List Int32} (hx9 : x9 ∈ SC) (hS : va_S A s.heap H locs) {v : Int32} (hv : Int32.ofNat ([x9.2.1].getD 0 0) = v) (d : decode cc pc = .ok (.arraylength, 1)) (kk : W p l e R s m args below meth c H locs cells slots Q (F0 m (pc + 1) ls (.int v :: rest))) : W p l e R s m args below meth c H locs cells slots Q (F0 m pc ls (.ref (g.2.1 x9.1) :: rest)) := va_tlen hx hb ((hGV.sc hx9).1 0 (by decide)).2.2.2 hS hv d kk
theorem k_sld (hx : p.tables.exec = Jvm.exec) (hb : c.code = cc) {g : gv_T} (hGV : GV g A s s.heap) {x9 : Nat × Nat × List Int32} (hx9 : x9 ∈ SC) (hS : va_S A s.heap H locs) {i : Int32} (hin : vp_in i ([x9.2.1].getD 0 0)) {v : Int32} (hv : sby x9.2.2 i = v) (d : decode cc pc = .ok (.baload, 1)) (kk : W p l e R s m args below meth c H locs cells slots Q (F0 m (pc + 1) ls (.int v :: rest))) : W p l e R s m args below meth c H locs cells slots Q (F0 m pc ls (.int i :: .ref (g.2.1 x9.1) :: rest)) := va_tb hx hb ((hGV.sc hx9).1 0 (by decide)).2.2.2 hS hin (show Value.int ((([x9.2.2].getD 0 []).getD i.toNatClampNeg 0)) = .int v by rw [← hv]; rfl) d kk
theorem k_svalue (hx : p.tables.exec = Jvm.exec) (hb : c.code = cc) {g : gv_T} (hGV : GV g A s s.heap) {x9 : Nat × Nat × List Int32} (hx9 : x9 ∈ SC) (hG : ∀ w ∈ GW, w.before args s = true) (hS : va_S A s.heap H locs) {own : String} {index : Nat} (hown : s.vm.findClass own = some m.cls) (hlink : Cond.fieldLink own index "java/lang/String" "value" "[B" ∈ GW) (d : decode cc pc = .ok (.getfield index, 3)) (kk : W p l e R s m args below meth c H locs cells slots Q (F0 m (pc + 3) ls (.ref (g.2.1 x9.1) :: rest))) : W p l e R s m args below meth c H locs cells slots Q (F0 m pc ls (.ref (g.1 x9.1) :: rest)) := vk_getf hx hb ((hGV.sc hx9).1 0 (by decide)).2.2.1 hS hown (hG _ hlink) (fun _ h => h) d kk
theorem k_scoder (hx : p.tables.exec = Jvm.exec) (hb : c.code = cc) {g : gv_T} (hGV : GV g A s s.heap) {x9 : Nat × Nat × List Int32} (hx9 : x9 ∈ SC) (hG : ∀ w ∈ GW, w.before args s = true) (hS : va_S A s.heap H locs) {own : String} {index : Nat} (hown : s.vm.findClass own = some m.cls) (hlink : Cond.fieldLink own index "java/lang/String" "coder" "B" ∈ GW) (d : decode cc pc = .ok (.getfield index, 3)) (kk : W p l e R s m args below meth c H locs cells slots Q (F0 m (pc + 3) ls (.int 0 :: rest))) : W p l e R s m args below meth c H locs cells slots Q (F0 m pc ls (.ref (g.1 x9.1) :: rest)) := vk_getf hx hb ((hGV.sc hx9).1 0 (by decide)).2.1 hS hown (hG _ hlink) (fun _ h => h) d kk
theorem k_srecv {g : gv_T} (hGV : GV g A s s.heap) {x9 : Nat × Nat × List Int32} (hx9 : x9 ∈ SC) (hS : va_S A s.heap H locs) : ∃ cell : Cell, H[g.1 x9.1]? = some cell ∧ cell.vm.isStatics = false ∧ s.vm.findClass "java/lang/String" = some cell.cls := vk_recv (N := 1) (adK := fun _ => g.1 x9.1) (i := 0) (hGV.sc hx9) (by decide) hS
theorem k_script (hx : p.tables.exec = Jvm.exec) (hb : c.code = cc) {g : gv_T} (hGV : GV g A s s.heap) (hS : va_S A s.heap H locs) {i : Int32} (hin : vp_in i g.2.2.2.2.1) (d : decode cc pc = .ok (.iaload, 1)) (kk : W p l e R s m args below meth c H locs cells slots Q (F0 m (pc + 1) ls (.int (g.2.2.2.2.2 (ix i)) :: rest))) : W p l e R s m args below meth c H locs cells slots Q (F0 m pc ls (.int i :: .ref g.2.2.2.1 :: rest)) := va_sld hx hb hGV.scr.1 hGV.scr.1.bound hGV.scr.2 hS hin d kk
theorem k_sclen (hx : p.tables.exec = Jvm.exec) (hb : c.code = cc) {g : gv_T} (hGV : GV g A s s.heap) (hS : va_S A s.heap H locs) (d : decode cc pc = .ok (.arraylength, 1)) (kk : W p l e R s m args below meth c H locs cells slots Q (F0 m (pc + 1) ls (.int (Int32.ofNat g.2.2.2.2.1) :: rest))) : W p l e R s m args below meth c H locs cells slots Q (F0 m pc ls (.ref g.2.2.2.1 :: rest)) := va_slen hx hb hGV.scr.1 hGV.scr.1.bound hGV.scr.2 hS d kk
theorem k_mabsl (hx : p.tables.exec = Jvm.exec) (hb : c.code = cc) (hml : c.maxLocals = ls.size) {own : String} {index : Nat} (hown : s.vm.findClass own = some m.cls) (h1 : (Cond.methodLink own index Lib.MathLoose.abs_long.x).before args s = true) (h2 : (Cond.static Lib.MathLoose.abs_long.x).before args s = true) (h3 : (Cond.initialized "java/lang/Math").before args s = true) (h4 : (Cond.code Lib.MathLoose.abs_long.x Lib.MathLoose.abs_long.code 2 (some .long)).before args s = true) (hf : 1 ≤ R.frames) (hlo : (rest.map fun v => v.category).sum + 13 ≤ R.locals) (hc : cells ≤ R.cells) (hs : slots ≤ R.slots) {x v : Int64} (d : decode cc pc = .ok (.invokestatic index, 3)) (hv : (if 0 < x then x else -x) = v) (kk : W p l e R s m args below meth c H locs cells slots Q (F0 m (pc + 3) ls (.long v :: rest))) : W p l e R s m args below meth c H locs cells slots Q (F0 m pc ls (.long x :: rest)) := va_mabs_long hx hb hml hown h1 h2 h3 h4 hf hlo hc hs d (by rw [hv]; exact kk)
theorem k_mminl (hx : p.tables.exec = Jvm.exec) (hb : c.code = cc) (hml : c.maxLocals = ls.size) {own : String} {index : Nat} (hown : s.vm.findClass own = some m.cls) (h1 : (Cond.methodLink own index Lib.MathLoose.min_long.x).before args s = true) (h2 : (Cond.static Lib.MathLoose.min_long.x).before args s = true) (h3 : (Cond.initialized "java/lang/Math").before args s = true) (h4 : (Cond.code Lib.MathLoose.min_long.x Lib.MathLoose.min_long.code 4 (some .long)).before args s = true) (hf : 1 ≤ R.frames) (hlo : (rest.map fun v => v.category).sum + 15 ≤ R.locals) (hc : cells ≤ R.cells) (hs : slots ≤ R.slots) {x y v : Int64} (d : decode cc pc = .ok (.invokestatic index, 3)) (hv : (if y < x then y else x) = v) (kk : W p l e R s m args below meth c H locs cells slots Q (F0 m (pc + 3) ls (.long v :: rest))) : W p l e R s m args below meth c H locs cells slots Q (F0 m pc ls (.long y :: .long x :: rest)) := va_mmin_long hx hb hml hown h1 h2 h3 h4 hf hlo hc hs d (by rw [hv]; exact kk)
theorem k_mmax (hx : p.tables.exec = Jvm.exec) (hb : c.code = cc) (hml : c.maxLocals = ls.size) {own : String} {index : Nat} (hown : s.vm.findClass own = some m.cls) (h1 : (Cond.methodLink own index Lib.Math.max.name).before args s = true) (h2 : (Cond.static Lib.Math.max.name).before args s = true) (h3 : (Cond.initialized "java/lang/Math").before args s = true) (h4 : (Cond.code Lib.Math.max.name Lib.Math.max.code 2 (some .int)).before args s = true) (hf : 1 ≤ R.frames) (hlo : (rest.map fun v => v.category).sum + 13 ≤ R.locals) (hc : cells ≤ R.cells) (hs : slots ≤ R.slots) {x y v : Int32} (d : decode cc pc = .ok (.invokestatic index, 3)) (hv : (if x < y then y else x) = v) (kk : W p l e R s m args below meth c H locs cells slots Q (F0 m (pc + 3) ls (.int v :: rest))) : W p l e R s m args below meth c H locs cells slots Q (F0 m pc ls (.int y :: .int x :: rest)) := va_mmax hx hb hml hown h1 h2 h3 h4 hf hlo hc hs d (by rw [hv]; exact kk)
theorem k_mmin (hx : p.tables.exec = Jvm.exec) (hb : c.code = cc) (hml : c.maxLocals = ls.size) {own : String} {index : Nat} (hown : s.vm.findClass own = some m.cls) (h1 : (Cond.methodLink own index Lib.Math.min.name).before args s = true) (h2 : (Cond.static Lib.Math.min.name).before args s = true) (h3 : (Cond.initialized "java/lang/Math").before args s = true) (h4 : (Cond.code Lib.Math.min.name Lib.Math.min.code 2 (some .int)).before args s = true) (hf : 1 ≤ R.frames) (hlo : (rest.map fun v => v.category).sum + 13 ≤ R.locals) (hc : cells ≤ R.cells) (hs : slots ≤ R.slots) {x y v : Int32} (d : decode cc pc = .ok (.invokestatic index, 3)) (hv : (if y < x then y else x) = v) (kk : W p l e R s m args below meth c H locs cells slots Q (F0 m (pc + 3) ls (.int v :: rest))) : W p l e R s m args below meth c H locs cells slots Q (F0 m pc ls (.int y :: .int x :: rest)) := va_mmin hx hb hml hown h1 h2 h3 h4 hf hlo hc hs d (by rw [hv]; exact kk)
end KR
theorem goV {own C : String} {idx n : Nat} {y : MethodName} {b : ByteArray} {r : Option FieldType} (h1 : Cond.methodLink own idx y ∈ GW) (h2 : Cond.instanceMethod y ∈ GW) (h3 : Cond.selects C y y ∈ GW) (h4 : Cond.initialized C ∈ GW) (h5 : Cond.code y b n r ∈ GW) : GoodIn GW (wsV own idx C y (.code y b n r :: GW)) := by
  intro w hw
  have hm : w ∈ GW := by
    unfold wsV at hw
    simp only [List.cons_append, List.nil_append, List.mem_cons] at hw
    rcases hw with rfl | rfl | rfl | rfl | rfl | hw <;> assumption
  exact ⟨hm, gw_good hm⟩
theorem goS {own : String} {idx n : Nat} {y : MethodName} {b : ByteArray} {r : Option FieldType} (h1 : Cond.methodLink own idx y ∈ GW) (h2 : Cond.static y ∈ GW) (h4 : Cond.initialized y.cls ∈ GW) (h5 : Cond.code y b n r ∈ GW) : GoodIn GW (va_wsS own idx y (.code y b n r :: GW)) := by
  intro w hw
  have hm : w ∈ GW := by
    unfold va_wsS at hw
    simp only [List.cons_append, List.nil_append, List.mem_cons] at hw
    rcases hw with rfl | rfl | rfl | rfl | hw <;> assumption
  exact ⟨hm, gw_good hm⟩
theorem goSW {own : String} {idx n : Nat} {y : MethodName} {b : ByteArray} {r : Option FieldType} {hh : List (Nat × Nat × Nat × Nat)} (h1 : Cond.methodLink own idx y ∈ GW) (h2 : Cond.static y ∈ GW) (h4 : Cond.initialized y.cls ∈ GW) (h5 : Cond.codeWith y b n r hh ∈ GW) : GoodIn GW (va_wsS own idx y (.codeWith y b n r hh :: GW)) := by
  intro w hw
  have hm : w ∈ GW := by
    unfold va_wsS at hw
    simp only [List.cons_append, List.nil_append, List.mem_cons] at hw
    rcases hw with rfl | rfl | rfl | rfl | hw <;> assumption
  exact ⟨hm, gw_good hm⟩
theorem goC {n : Nat} {y : MethodName} {b : ByteArray} {r : Option FieldType} (h5 : Cond.code y b n r ∈ GW) : GoodIn GW (.code y b n r :: GW) := by
  intro w hw
  have hm : w ∈ GW := by
    rcases List.mem_cons.mp hw with rfl | hw <;> assumption
  exact ⟨hm, gw_good hm⟩
/-! calls and ends -/
abbrev CF (p : Program) (m : MethodId) (c : Code) (cc : ByteArray) (nL : Nat) (s : State) (args : Array Value) (own : String) : Prop := CallFix p m c cc nL s args GW own
section KC
variable {p : Program} {l : Launch} {e : Env} {R : Room} {s : State} {m : MethodId} {args : Array Value} {below : List Frame} {meth : Method} {c : Code} {H : Heap} {locs : List Loc} {cells slots : Nat} {Q : State → Prop}
variable {cc : ByteArray} {pc nL : Nat} {ls : Array Slot} {rest st0 : List Value} {D : va_G} {ad : Nat → Nat} {cA : Nat → ClassId} {A : Nat → Prop} {a : Nat} {g : gv_T} {σ : Sg}
variable {y : MethodName} {b : ByteArray} {n idx : Nat} {ret : Option FieldType} {R' : Room} {av As : List Value} {own C E : String} {hh : List (Nat × Nat × Nat × Nat)} {Q' : Option Value → Sg → Prop} {X' : String → Sg → Prop}
theorem fr_of (hD : va_D A (WL ad cA σ)) (hS : va_S A s.heap H locs) (hA : ∀ q, s.heap.size ≤ q → A q) : ∀ q, va_A (WL ad cA σ) H.size q → A q := by
  intro q h
  rcases h with ⟨k, e, hk⟩ | h
  · exact hD.2 k (q, e) hk
  · exact hA q (Nat.le_trans hS.1 h)
theorem pc_mk (hP : va_P D vwCl (WL ad cA σ) H) (hD : va_D A (WL ad cA σ)) (hS : va_S A s.heap H locs) (hA : ∀ q, s.heap.size ≤ q → A q) (hK : va_K D vwCl (TYS cA) s) (hGV : GV g A s s.heap) :
    ∀ U : State, U.heap = H → s.WarmedH U.vm → PcG D cA g av (WL ad cA σ) H.size av.toArray U := by
  intro U hU hW
  refine ⟨rfl, by rw [hU], by rw [hU]; exact hP, va_K.moved hW.alike hK, hD.weaken (fun _ _ _ _ => trivial), ?_⟩
  rw [hU]
  exact GV.warm hW ((hGV.kept hS.2.1).narrow (fr_of hD hS hA))
theorem keepS {L : List Loc} {H1 : Heap} (hS : va_S A s.heap H locs) (hF : ∀ q, va_A (WL ad cA σ) H.size q → A q) (hz : H.size ≤ H1.size) (hk : ∀ q, q < H.size → ¬ va_A (WL ad cA σ) H.size q → H1[q]? = H[q]?) (hL : ∀ q ∈ L, va_A (WL ad cA σ) H.size q.base) : va_S A s.heap H1 (locs ++ L) :=
  ⟨Nat.le_trans hS.1 hz, fun q h1 h2 => by rw [hk q (Nat.lt_of_lt_of_le h1 hS.1) (fun z => h2 (hF q z))]; exact hS.2.1 q h1 h2, fun q hq => by
    rcases List.mem_append.mp hq with h | h
    · exact hS.2.2 q h
    · exact hF _ (hL q h)⟩
theorem mc_go {mc ms : Nat} {a0 : Array Value} (Wo : Sg → va_W) (hr : vx_Run p l e R s m args below meth c H locs cells slots mc ms (F0 m pc ls st0) rest (QM D ad cA (va_A (WL ad cA σ) H.size) Q' a0) (XM D ad cA (va_A (WL ad cA σ) H.size) X') (va_A (WL ad cA σ) H.size))
    (hS : va_S A s.heap H locs) (hF : ∀ q, va_A (WL ad cA σ) H.size q → A q)
    (hj : ∀ (σ' : Sg) (H1 : Heap), (∀ q, q < H.size → ¬ va_A (WL ad cA σ) H.size q → H1[q]? = H[q]?) → va_P D vwCl (WL ad cA σ') H1 → va_D (va_A (WL ad cA σ) H.size) (WL ad cA σ') → va_P D vwCl (Wo σ') H1 ∧ va_D A (Wo σ'))
    (kn : ∀ (v : Option Value) (σ' : Sg) (H1 : Heap) (locs1 : List Loc), Q' v σ' → va_P D vwCl (Wo σ') H1 → va_D A (Wo σ') → va_S A s.heap H1 locs1 → W p l e R s m args below meth c H1 locs1 (cells + mc) (slots + ms) Q (F0 m (pc + 3) ls (v.toList ++ rest)))
    (kx : ∀ (E : String) (σ' : Sg) (H1 : Heap) (locs1 : List Loc) (q9 : Addr) (ce : Cell), X' E σ' → va_P D vwCl (Wo σ') H1 → va_D A (Wo σ') → va_S A s.heap H1 locs1 → H1[q9]? = some ce → ce.vm = .none → s.vm.findClass E = some ce.cls → vx_W p l e R s m args below meth c H1 locs1 (cells + mc) (slots + ms) Q (F0 m pc ls rest) q9) :
    W p l e R s m args below meth c H locs cells slots Q (F0 m pc ls st0) := by
  intro T hT X
  rcases hr T hT X with ⟨v, st₀, t, T', L, h0, X1, hL, e1, e2, ⟨⟨v', σ', hq, hv, hp, hd⟩, hz, hk⟩, st⟩ | ⟨q9, st₀, t, T', L, E, ce, h0, X1, hL, e1, e2, ⟨⟨σ', hq, hp, hd⟩, hz, hk⟩, hce, hcv, hcl, st⟩
  · have hv : v = v' := Outcome.returned.inj hv
    subst hv
    rw [h0] at hz hk
    have hk1 : ∀ q, q < H.size → ¬ va_A (WL ad cA σ) H.size q → T'.heap[q]? = H[q]? := fun q h1 h2 => by rw [e1]; exact hk q h1 h2
    obtain ⟨hP1, hD1⟩ := hj σ' T'.heap hk1 (by rw [e1]; exact hp) hd
    obtain ⟨t2, a1, b1⟩ := kn v σ' T'.heap (locs ++ L) hq hP1 hD1 (keepS hS hF (by rw [e1]; exact hz) hk1 hL) T' rfl X1
    exact ⟨t2, st t2 a1, b1⟩
  · rw [h0] at hz hk
    have hk1 : ∀ q, q < H.size → ¬ va_A (WL ad cA σ) H.size q → T'.heap[q]? = H[q]? := fun q h1 h2 => by rw [e1]; exact hk q h1 h2
    obtain ⟨hP1, hD1⟩ := hj σ' T'.heap hk1 (by rw [e1]; exact hp) hd
    obtain ⟨t2, a1, b1⟩ := kx E σ' T'.heap (locs ++ L) q9 ce hq hP1 hD1 (keepS hS hF (by rw [e1]; exact hz) hk1 hL) (by rw [e1]; exact hce) hcv hcl T' rfl X1
    exact ⟨t2, st.trans a1, b1⟩
theorem mw_go {mc ms : Nat} {a0 : Array Value} (Wo : Sg → va_W) (hr : va_Run p l e R s m args below meth c H locs cells slots mc ms (F0 m pc ls st0) rest (QM D ad cA (va_A (WL ad cA σ) H.size) Q' a0) (va_A (WL ad cA σ) H.size))
    (hS : va_S A s.heap H locs) (hF : ∀ q, va_A (WL ad cA σ) H.size q → A q)
    (hj : ∀ (σ' : Sg) (H1 : Heap), (∀ q, q < H.size → ¬ va_A (WL ad cA σ) H.size q → H1[q]? = H[q]?) → va_P D vwCl (WL ad cA σ') H1 → va_D (va_A (WL ad cA σ) H.size) (WL ad cA σ') → va_P D vwCl (Wo σ') H1 ∧ va_D A (Wo σ'))
    (kn : ∀ (v : Option Value) (σ' : Sg) (H1 : Heap) (locs1 : List Loc), Q' v σ' → va_P D vwCl (Wo σ') H1 → va_D A (Wo σ') → va_S A s.heap H1 locs1 → W p l e R s m args below meth c H1 locs1 (cells + mc) (slots + ms) Q (F0 m (pc + 3) ls (v.toList ++ rest))) :
    W p l e R s m args below meth c H locs cells slots Q (F0 m pc ls st0) := by
  intro T hT X
  obtain ⟨v, st₀, t, T', L, h0, X1, hL, e1, e2, ⟨⟨v', σ', hq, hv, hp, hd⟩, hz, hk⟩, st⟩ := hr T hT X
  have hv : v = v' := Outcome.returned.inj hv
  subst hv
  rw [h0] at hz hk
  have hk1 : ∀ q, q < H.size → ¬ va_A (WL ad cA σ) H.size q → T'.heap[q]? = H[q]? := fun q h1 h2 => by rw [e1]; exact hk q h1 h2
  obtain ⟨hP1, hD1⟩ := hj σ' T'.heap hk1 (by rw [e1]; exact hp) hd
  obtain ⟨t2, a1, b1⟩ := kn v σ' T'.heap (locs ++ L) hq hP1 hD1 (keepS hS hF (by rw [e1]; exact hz) hk1 hL) T' rfl X1
  exact ⟨t2, st t2 a1, b1⟩
theorem hj0 (hF : ∀ q, va_A (WL ad cA σ) H.size q → A q) : ∀ (σ' : Sg) (H1 : Heap), (∀ q, q < H.size → ¬ va_A (WL ad cA σ) H.size q → H1[q]? = H[q]?) → va_P D vwCl (WL ad cA σ') H1 → va_D (va_A (WL ad cA σ) H.size) (WL ad cA σ') → va_P D vwCl (WL ad cA σ') H1 ∧ va_D A (WL ad cA σ') := fun σ' H1 _ hp hd => ⟨hp, hd.weaken (fun _ q _ h => hF q.1 h)⟩
theorem mc_V (S : CF p m c cc nL s args own) (hl : ls.size = nL) (hP : va_P D vwCl (WL ad cA σ) H) (hD : va_D A (WL ad cA σ)) (hS : va_S A s.heap H locs) (hA : ∀ q, s.heap.size ≤ q → A q) (hK : va_K D vwCl (TYS cA) s) (hGV : GV g A s s.heap)
    (hM : MC l y b n ret R' D ad cA g (.ref a :: As) σ Q' X') (go : GoodIn GW (wsV own idx C y (.code y b n ret :: GW))) (hd : y.cls = C ∧ y.cls ≠ "java/lang/invoke/MethodHandle" ∧ y.cls ≠ "java/lang/invoke/VarHandle" ∧ (parseMethodDescriptor y.desc).map (fun d => d.parameters.length) = some As.length)
    (hR' : R'.frames + 1 ≤ R.frames ∧ 8 + (n + 11) + R'.locals ≤ R.locals) (hcs : cells + R'.cells ≤ R.cells ∧ slots + R'.slots ≤ R.slots) (hrc : ∃ cell : Cell, H[a]? = some cell ∧ cell.vm.isStatics = false ∧ s.vm.findClass C = some cell.cls)
    (d : decode cc pc = .ok (.invokevirtual idx, 3)) (hst : st0 = As.reverse ++ .ref a :: rest) (hW : (rest.map fun v => v.category).sum ≤ 8)
    (kn : ∀ (v : Option Value) (σ' : Sg) (H1 : Heap) (locs1 : List Loc), Q' v σ' → va_P D vwCl (WL ad cA σ') H1 → va_D A (WL ad cA σ') → va_S A s.heap H1 locs1 → W p l e R s m args below meth c H1 locs1 (cells + R'.cells) (slots + R'.slots) Q (F0 m (pc + 3) ls (v.toList ++ rest)))
    (kx : ∀ (E : String) (σ' : Sg) (H1 : Heap) (locs1 : List Loc) (q9 : Addr) (ce : Cell), X' E σ' → va_P D vwCl (WL ad cA σ') H1 → va_D A (WL ad cA σ') → va_S A s.heap H1 locs1 → H1[q9]? = some ce → ce.vm = .none → s.vm.findClass E = some ce.cls → vx_W p l e R s m args below meth c H1 locs1 (cells + R'.cells) (slots + R'.slots) Q (F0 m pc ls rest) q9) :
    W p l e R s m args below meth c H locs cells slots Q (F0 m pc ls st0) :=
  mc_go (WL ad cA) (vx_runV S (hM H.size) (cwV As.length S.2.2.2.2 go rfl rfl rfl hd hR') ⟨PcG.blind _ _ _ _ _ _, hrc, pc_mk hP hD hS hA hK hGV⟩ rfl rfl hl hst (lv_room hW) d hcs) hS (fr_of hD hS hA) (hj0 (fr_of hD hS hA)) kn kx
theorem mc_S (S : CF p m c cc nL s args own) (hl : ls.size = nL) (hP : va_P D vwCl (WL ad cA σ) H) (hD : va_D A (WL ad cA σ)) (hS : va_S A s.heap H locs) (hA : ∀ q, s.heap.size ≤ q → A q) (hK : va_K D vwCl (TYS cA) s) (hGV : GV g A s s.heap)
    (hM : MC l y b n ret R' D ad cA g As σ Q' X') (go : GoodIn GW (va_wsS own idx y (.code y b n ret :: GW))) (hd : y.cls ≠ "java/lang/invoke/MethodHandle" ∧ y.cls ≠ "java/lang/invoke/VarHandle" ∧ (parseMethodDescriptor y.desc).map (fun d => d.parameters.length) = some As.length)
    (hR' : R'.frames + 1 ≤ R.frames ∧ 8 + (n + 11) + R'.locals ≤ R.locals) (hcs : cells + R'.cells ≤ R.cells ∧ slots + R'.slots ≤ R.slots)
    (d : decode cc pc = .ok (.invokestatic idx, 3)) (hst : st0 = As.reverse ++ rest) (hW : (rest.map fun v => v.category).sum ≤ 8)
    (kn : ∀ (v : Option Value) (σ' : Sg) (H1 : Heap) (locs1 : List Loc), Q' v σ' → va_P D vwCl (WL ad cA σ') H1 → va_D A (WL ad cA σ') → va_S A s.heap H1 locs1 → W p l e R s m args below meth c H1 locs1 (cells + R'.cells) (slots + R'.slots) Q (F0 m (pc + 3) ls (v.toList ++ rest)))
    (kx : ∀ (E : String) (σ' : Sg) (H1 : Heap) (locs1 : List Loc) (q9 : Addr) (ce : Cell), X' E σ' → va_P D vwCl (WL ad cA σ') H1 → va_D A (WL ad cA σ') → va_S A s.heap H1 locs1 → H1[q9]? = some ce → ce.vm = .none → s.vm.findClass E = some ce.cls → vx_W p l e R s m args below meth c H1 locs1 (cells + R'.cells) (slots + R'.slots) Q (F0 m pc ls rest) q9) :
    W p l e R s m args below meth c H locs cells slots Q (F0 m pc ls st0) :=
  mc_go (WL ad cA) (vx_runS S (hM H.size) (va_cwS As.length S.2.2.2.2 go rfl rfl rfl hd hR') ⟨PcG.blind _ _ _ _ _ _, pc_mk hP hD hS hA hK hGV⟩ rfl rfl hl hst (lv_room hW) d hcs) hS (fr_of hD hS hA) (hj0 (fr_of hD hS hA)) kn kx
theorem mc_SW (S : CF p m c cc nL s args own) (hl : ls.size = nL) (hP : va_P D vwCl (WL ad cA σ) H) (hD : va_D A (WL ad cA σ)) (hS : va_S A s.heap H locs) (hA : ∀ q, s.heap.size ≤ q → A q) (hK : va_K D vwCl (TYS cA) s) (hGV : GV g A s s.heap)
    (hM : MW l y b n ret hh R' D ad cA g As σ Q') (go : GoodIn GW (va_wsS own idx y (.codeWith y b n ret hh :: GW))) (hd : y.cls ≠ "java/lang/invoke/MethodHandle" ∧ y.cls ≠ "java/lang/invoke/VarHandle" ∧ (parseMethodDescriptor y.desc).map (fun d => d.parameters.length) = some As.length)
    (hR' : R'.frames + 1 ≤ R.frames ∧ 8 + (n + 11) + R'.locals ≤ R.locals) (hcs : cells + R'.cells ≤ R.cells ∧ slots + R'.slots ≤ R.slots)
    (d : decode cc pc = .ok (.invokestatic idx, 3)) (hst : st0 = As.reverse ++ rest) (hW : (rest.map fun v => v.category).sum ≤ 8)
    (kn : ∀ (v : Option Value) (σ' : Sg) (H1 : Heap) (locs1 : List Loc), Q' v σ' → va_P D vwCl (WL ad cA σ') H1 → va_D A (WL ad cA σ') → va_S A s.heap H1 locs1 → W p l e R s m args below meth c H1 locs1 (cells + R'.cells) (slots + R'.slots) Q (F0 m (pc + 3) ls (v.toList ++ rest))) :
    W p l e R s m args below meth c H locs cells slots Q (F0 m pc ls st0) :=
  mw_go (WL ad cA) (vx_runSW S (hM H.size) (vx_cwSW As.length S.2.2.2.2 go rfl rfl rfl hd hR') ⟨PcG.blind _ _ _ _ _ _, pc_mk hP hD hS hA hK hGV⟩ rfl rfl hl hst (lv_room hW) d hcs) hS (fr_of hD hS hA) (hj0 (fr_of hD hS hA)) kn
/-! ends: of a method that may throw (x) and of one that does not -/
variable {mc ms : Nat} {Qe : Option Value → Sg → Prop} {Xe : String → Sg → Prop}
theorem m_i {v : Int32} {ty : FieldType} (hq : Qe (some (.int v)) σ) (hx : p.tables.exec = Jvm.exec) (hb : c.code = cc) (hr : meth.sig.returnType = some ty) (hlocks : meth.locks = false) (hn : narrow ty (.int v) = .int v) (hP : va_P D vwCl (WL ad cA σ) H) (hD : va_D A (WL ad cA σ)) (hS : va_S A s.heap H locs) (hc : cells ≤ mc) (hs : slots ≤ ms) (d : decode cc pc = .ok (.ireturn, 1)) :
    W p l e R s m args below meth c H locs cells slots (MQ below (QM D ad cA A Qe) args s mc ms A) (F0 m pc ls [.int v]) :=
  W.widen hc hs (W.zret hx hb hr hn (fun t ht _ => ⟨⟨_, σ, hq, rfl, by rw [ht]; exact hP, hD⟩, hS.F ht⟩) hS.2.2 d hlocks)
theorem m_l {v : Int64} (hq : Qe (some (.long v)) σ) (hx : p.tables.exec = Jvm.exec) (hb : c.code = cc) (hr : meth.sig.returnType = some .long) (hlocks : meth.locks = false) (hP : va_P D vwCl (WL ad cA σ) H) (hD : va_D A (WL ad cA σ)) (hS : va_S A s.heap H locs) (hc : cells ≤ mc) (hs : slots ≤ ms) (d : decode cc pc = .ok (.lreturn, 1)) :
    W p l e R s m args below meth c H locs cells slots (MQ below (QM D ad cA A Qe) args s mc ms A) (F0 m pc ls [.long v]) :=
  W.widen hc hs (W.lret hx hb hr (fun t ht _ => ⟨⟨_, σ, hq, rfl, by rw [ht]; exact hP, hD⟩, hS.F ht⟩) hS.2.2 d hlocks)
theorem m_f {v : UInt32} (hq : Qe (some (.float v)) σ) (hx : p.tables.exec = Jvm.exec) (hb : c.code = cc) (hr : meth.sig.returnType = some .float) (hlocks : meth.locks = false) (hP : va_P D vwCl (WL ad cA σ) H) (hD : va_D A (WL ad cA σ)) (hS : va_S A s.heap H locs) (hc : cells ≤ mc) (hs : slots ≤ ms) (d : decode cc pc = .ok (.freturn, 1)) :
    W p l e R s m args below meth c H locs cells slots (MQ below (QM D ad cA A Qe) args s mc ms A) (F0 m pc ls [.float v]) :=
  W.widen hc hs (W.fret hx hb hr (fun t ht _ => ⟨⟨_, σ, hq, rfl, by rw [ht]; exact hP, hD⟩, hS.F ht⟩) hS.2.2 d hlocks)
theorem m_d {v : UInt64} (hq : Qe (some (.double v)) σ) (hx : p.tables.exec = Jvm.exec) (hb : c.code = cc) (hr : meth.sig.returnType = some .double) (hlocks : meth.locks = false) (hP : va_P D vwCl (WL ad cA σ) H) (hD : va_D A (WL ad cA σ)) (hS : va_S A s.heap H locs) (hc : cells ≤ mc) (hs : slots ≤ ms) (d : decode cc pc = .ok (.dreturn, 1)) :
    W p l e R s m args below meth c H locs cells slots (MQ below (QM D ad cA A Qe) args s mc ms A) (F0 m pc ls [.double v]) :=
  W.widen hc hs (W.dret hx hb hr (fun t ht _ => ⟨⟨_, σ, hq, rfl, by rw [ht]; exact hP, hD⟩, hS.F ht⟩) hS.2.2 d hlocks)
theorem m_v (hq : Qe none σ) (hx : p.tables.exec = Jvm.exec) (hb : c.code = cc) (hr : meth.sig.returnType = none) (hlocks : meth.locks = false) (hP : va_P D vwCl (WL ad cA σ) H) (hD : va_D A (WL ad cA σ)) (hS : va_S A s.heap H locs) (hc : cells ≤ mc) (hs : slots ≤ ms) (d : decode cc pc = .ok (.return_, 1)) :
    W p l e R s m args below meth c H locs cells slots (MQ below (QM D ad cA A Qe) args s mc ms A) (F0 m pc ls []) :=
  W.widen hc hs (W.vret hx hb hr (fun t ht _ => ⟨⟨_, σ, hq, rfl, by rw [ht]; exact hP, hD⟩, hS.F ht⟩) hS.2.2 d hlocks)
/-- a throw leaves the method -/
theorem m_out {q9 : Addr} {ce : Cell} (hq : Xe E σ) (htab : ∀ x ∈ c.exceptionTable.toList, False) (hlocks : meth.locks = false) (h9 : H[q9]? = some ce) (hv : ce.vm = .none) (hcl : s.vm.findClass E = some ce.cls) (hP : va_P D vwCl (WL ad cA σ) H) (hD : va_D A (WL ad cA σ)) (hS : va_S A s.heap H locs) (hc : cells ≤ mc) (hs : slots ≤ ms) :
    vx_W p l e R s m args below meth c H locs cells slots (vx_MQ below (QM D ad cA A Qe) (XM D ad cA A Xe) args s mc ms A) (F0 m pc ls rest) q9 :=
  vx_out (fun x hx => (htab x hx).elim) hlocks h9 hv hcl (fun t ht _ => ⟨⟨σ, hq, by rw [ht]; exact hP, hD⟩, hS.F ht⟩) hS.2.2 hc hs
theorem m_throw (hq : Xe E σ) {text : String} {ik is ic : Nat} {names : List String} (i : Nat) (hx : p.tables.exec = Jvm.exec) (hb : c.code = cc) (hfl : l.stackTraces = false) (hown : s.vm.findClass own = some m.cls) (hG : ∀ w ∈ GW, w.before args s = true) (hGV : GV g A s s.heap) (htab : ∀ x ∈ c.exceptionTable.toList, False) (hlocks : meth.locks = false) (hlz : ls.size = c.maxLocals)
    (hcls : Bundle.fit E = true) (hnames : ∀ n ∈ names, Bundle.fit n = true) (hk : Cond.classLink own ik E ∈ GW) (hini : Cond.initialized E ∈ GW) (hi : STR[i]? = some (own, is, text)) (hat : ∀ w ∈ vx_atS own ic E names, w ∈ lw_tbl ∧ (goodWord w || nwWord w) = true)
    (hP : va_P D vwCl (WL ad cA σ) H) (hD : va_D A (WL ad cA σ)) (hS : va_S A s.heap H locs)
    (d0 : decode cc pc = .ok (.new ik, 3)) (d3 : decode cc (pc + 3) = .ok (.dup, 1)) (d4 : decode cc (pc + 4) = .ok (.ldc is, 2)) (d6 : decode cc (pc + 6) = .ok (.invokespecial ic, 3)) (d9 : decode cc (pc + 9) = .ok (.athrow, 1))
    (hRf : names.length + 3 < R.frames) (hRl : (rest.map fun v => v.category).sum + (13 * (names.length + 1) + 43) ≤ R.locals) (hRc : cells + 1 ≤ R.cells) (hRs : slots + 6 ≤ R.slots) (hc : cells + 1 ≤ mc) (hs : slots + 6 ≤ ms) :
    W p l e R s m args below meth c H locs cells slots (vx_MQ below (QM D ad cA A Qe) (XM D ad cA A Xe) args s mc ms A) (F0 m pc ls rest) := by
  have hat2 : ∀ w ∈ vx_atS own ic E names, w.before args s = true := by
    intro w hw
    obtain ⟨h1, h2⟩ := hat w hw
    rcases Bool.or_eq_true_iff.mp h2 with h | h
    · exact hG w (List.mem_filter.mpr ⟨h1, h⟩)
    · exact va_Nw.use (nw_tab h) (hGV.nw w (List.mem_filter.mpr ⟨h1, h⟩))
  have hgood : ∀ w ∈ Cond.classLink own ik E :: Cond.initialized E :: vx_atS own ic E names, vx_ot w = true := by
    intro w hw
    rcases List.mem_cons.mp hw with rfl | hw
    · rfl
    · rcases List.mem_cons.mp hw with rfl | hw
      · rfl
      · rcases Bool.or_eq_true_iff.mp (hat w hw).2 with h | h
        · unfold vx_ot; rw [h]; exact Bool.or_true _
        · unfold vx_ot; rw [nw_tab h]; rfl
  refine vx_throwS hx hb hfl hown hcls hnames (hG _ hk) (hG _ hini) (hGV.str i _ hi) hat2 hgood hGV.th.1 hGV.th.2 hS hlz d0 d3 d4 d6 d9 (fun x hx => (htab x hx).elim) hRf hRl hRc hRs hlocks ?_ hS.2.2 hc hs
  intro t ht hz hk9
  refine ⟨⟨σ, hq, hP.kept (fun k z hz9 => hk9 _ (hP k z hz9).lt), hD⟩, Nat.le_trans hS.1 hz, fun x h1 h2 => ?_⟩
  rw [hk9 x (Nat.lt_of_lt_of_le h1 hS.1)]
  exact hS.2.1 x h1 h2
theorem m_throwW (hq : Xe E σ) {text : String} {ik is ic : Nat} {names : List String} (i : Nat) (hx : p.tables.exec = Jvm.exec) (hb : c.code = cc) (hfl : l.stackTraces = false) (hown : s.vm.findClass own = some m.cls) (hG : ∀ w ∈ GW, w.before args s = true) (hGV : GV g A s s.heap) (htab : ∀ x ∈ c.exceptionTable.toList, False) (hlocks : meth.locks = false) (hlz : ls.size = c.maxLocals)
    (hcls : Bundle.fit E = true) (hnames : ∀ n ∈ names, Bundle.fit n = true) (hk : Cond.classLink own ik E ∈ GW) (hini : Cond.initialized E ∈ GW) (hi : STR[i]? = some (own, is, text)) (hat : ∀ w ∈ vx_atS own ic E names, w ∈ lw_tbl ∧ (goodWord w || nwWord w) = true)
    (hP : va_P D vwCl (WL ad cA σ) H) (hD : va_D A (WL ad cA σ)) (hS : va_S A s.heap H locs)
    (d0 : decode cc pc = .ok (.new ik, 3)) (d3 : decode cc (pc + 3) = .ok (.dup, 1)) (d4 : decode cc (pc + 4) = .ok (.ldc_w is, 3)) (d7 : decode cc (pc + 7) = .ok (.invokespecial ic, 3)) (d10 : decode cc (pc + 10) = .ok (.athrow, 1))
    (hRf : names.length + 3 < R.frames) (hRl : (rest.map fun v => v.category).sum + (13 * (names.length + 1) + 43) ≤ R.locals) (hRc : cells + 1 ≤ R.cells) (hRs : slots + 6 ≤ R.slots) (hc : cells + 1 ≤ mc) (hs : slots + 6 ≤ ms) :
    W p l e R s m args below meth c H locs cells slots (vx_MQ below (QM D ad cA A Qe) (XM D ad cA A Xe) args s mc ms A) (F0 m pc ls rest) := by
  have hat2 : ∀ w ∈ vx_atS own ic E names, w.before args s = true := by
    intro w hw
    obtain ⟨h1, h2⟩ := hat w hw
    rcases Bool.or_eq_true_iff.mp h2 with h | h
    · exact hG w (List.mem_filter.mpr ⟨h1, h⟩)
    · exact va_Nw.use (nw_tab h) (hGV.nw w (List.mem_filter.mpr ⟨h1, h⟩))
  have hgood : ∀ w ∈ Cond.classLink own ik E :: Cond.initialized E :: vx_atS own ic E names, vx_ot w = true := by
    intro w hw
    rcases List.mem_cons.mp hw with rfl | hw
    · rfl
    · rcases List.mem_cons.mp hw with rfl | hw
      · rfl
      · rcases Bool.or_eq_true_iff.mp (hat w hw).2 with h | h
        · unfold vx_ot; rw [h]; exact Bool.or_true _
        · unfold vx_ot; rw [nw_tab h]; rfl
  refine vx_throwSW hx hb hfl hown hcls hnames (hG _ hk) (hG _ hini) (hGV.str i _ hi) hat2 hgood hGV.th.1 hGV.th.2 hS hlz d0 d3 d4 d7 d10 (fun x hx => (htab x hx).elim) hRf hRl hRc hRs hlocks ?_ hS.2.2 hc hs
  intro t ht hz hk9
  refine ⟨⟨σ, hq, hP.kept (fun k z hz9 => hk9 _ (hP k z hz9).lt), hD⟩, Nat.le_trans hS.1 hz, fun x h1 h2 => ?_⟩
  rw [hk9 x (Nat.lt_of_lt_of_le h1 hS.1)]
  exact hS.2.1 x h1 h2
end KC
end
section
/-! A throw of a class whose own constructor calls its superclass's by another entry than 7 (java/util/NoSuchElementException: 13). ns_ctor goes the library's way of JvmDerived/BundleOwnThrow.lean (ctorThrowS), e_throwN the kit's of vx_throwS, with the first step of the chain by its own entry and bytes. -/
def nsTail (own : String) (ic : Nat) (X : String) : List Cond := (Bundle.ownAtoms own ic X []).drop ((Bundle.throwableAtoms ++ Bundle.throwableSAtoms ++ Bundle.chainSAtoms X []).length)
def nsAll (own : String) (ic : Nat) (X Y : String) (idx : Nat) (bs : ByteArray) (names : List String) : List Cond :=
  (Bundle.throwableAtoms ++ Bundle.throwableSAtoms) ++ ((Bundle.passSAtoms X Y idx bs ++ Bundle.chainSAtoms Y names) ++ nsTail own ic X)
section NSX
variable {p : Program} {l : Launch} {e : Env} {R : Room} {s : State} {m₀ : MethodId} {args : Array Value} {below : List Frame} {meth : Method} {c : Code} {W : State} {locs : List Loc} {cells slots : Nat}
set_option maxHeartbeats 4000000 in
theorem ns_ctor (X : Stand p l e R s m₀ args below meth c W locs cells slots) (hexec : p.tables.exec = Jvm.exec) (htr : e.platform.stackTraces = false) {own cls Y0 : String} {names : List String} {ic idx : Nat} {bs : ByteArray}
    (hown : s.vm.findClass own = some m₀.cls) (hcls : Bundle.fit cls = true) (hY0 : Bundle.fit Y0 = true) (hnames : ∀ n ∈ names, Bundle.fit n = true)
    (b0 : decode bs 0 = .ok (.aload_n 0, 1)) (b1 : decode bs 1 = .ok (.aload_n 1, 1)) (b2 : decode bs 2 = .ok (.invokespecial idx, 3)) (b5 : decode bs 5 = .ok (.return_, 1))
    (h : ∀ a ∈ nsAll own ic cls Y0 idx bs names, a.before args s = true)
    (hlocs : ∀ x ∈ locs, ∀ cell, s.heap[x.base]? = some cell → cell.vm.isStatics = false)
    {a : Addr} {cX : ClassId} {kX : Class} (hfoundX : s.vm.findClass cls = some cX) (hkX : s.vm.classes[cX]? = some kX) (hcell : W.heap[a]? = some (freshCell cX kX)) (hnew : s.heap.size ≤ a)
    {msg : Value} (hmsg : msg.isRef = true)
    {g : JFrame} (hg : g.method = m₀) (hsize : g.locals.size = c.maxLocals) (hlocked : g.locked = none) (hentered : g.entered = []) {rest : List Value} (hstack : g.stack = msg :: .ref a :: .ref a :: rest)
    (hd6 : decode c.code g.pc = .ok (.invokespecial ic, 3)) (hd9 : decode c.code (g.pc + 3) = .ok (.athrow, 1)) (hout : ∀ x ∈ c.exceptionTable.toList, covers x (g.pc + 3) = false)
    (hRframes : names.length + 4 < R.frames) (hRlocals : 2 * g.monitorRoom + ((Value.ref a :: rest).map fun v => v.category).sum + (13 * (names.length + 2) + 42) ≤ R.locals) (hlocks : meth.locks = false) :
    ∃ U : State, Steps p.tables e below (W.setTop g) U ∧ U.status = .running ∧ Ended U below (.threw a) ∧ s.WarmedH U.vm ∧ s.sameButNew ({ U with vm := s.vm } : State) locs cells slots ∧
      ∃ ce, U.heap[a]? = some ce ∧ ce.vm = .none ∧ s.vm.findClass cls = some ce.cls := by
  have howns : e.platform.frameOwnsMonitors = true := by rw [X.admits.platform]
  have hfin : e.platform.finalization = false := by rw [X.admits.platform]
  have hpl : e.platform.magicAccessors = ({} : Platform).magicAccessors := by rw [X.admits.platform]
  have hTh : ∀ x ∈ Bundle.throwableAtoms, x.before args s = true := fun x hx => h x (List.mem_append_left _ (List.mem_append_left _ hx))
  have hTS : ∀ x ∈ Bundle.throwableSAtoms, x.before args s = true := fun x hx => h x (List.mem_append_left _ (List.mem_append_right _ hx))
  have hPA : ∀ x ∈ Bundle.passSAtoms cls Y0 idx bs, x.before args s = true := fun x hx => h x (List.mem_append_right _ (List.mem_append_left _ (List.mem_append_left _ hx)))
  have hCH : ∀ x ∈ Bundle.chainSAtoms Y0 names, x.before args s = true := fun x hx => h x (List.mem_append_right _ (List.mem_append_left _ (List.mem_append_right _ hx)))
  have hTL : ∀ x ∈ nsTail own ic cls, x.before args s = true := fun x hx => h x (List.mem_append_right _ (List.mem_append_right _ hx))
  have a' : ∀ x, x ∈ nsTail own ic cls → x.holds args s none s [] = true := fun x hx => hTL x hx
  obtain ⟨T, Z0, L, -, Y⟩ := ThrowableC.of_atoms (args := args) howns hfin hpl hTh
  obtain ⟨Z, M, LZ, LM, hnZ⟩ := Init0T.ofS_atoms (args := args) hpl L Y hTS
  obtain ⟨P2, Ps, hlen, L2, hL, hP2m, hlink2, hlink⟩ := Bundle.chainS (args := args) hpl hnZ names Y0 hY0 hnames hCH
  obtain ⟨P1, L1, hP1m, hP1s⟩ := PassC.ofS_atoms (args := args) (s := s) hpl (X := cls) (Y := Y0) (Bundle.fit_spec hcls).1 (Bundle.fit_spec hY0).2 b0 b1 b2 b5 hPA
  have hlink1 : P1.sup = P2.m := Option.some.inj (hP1s.symm.trans hP2m)
  have hfound : s.vm.findClass cls = some P1.m.cls := findClass_of_methodNamed hP1m
  cases Option.some.inj (hfoundX.symm.trans hfound)
  obtain ⟨c1, kX', hc1, hk, hord, -, -, hn6⟩ := Cond.instantiable_spec (a' (.instantiable cls 6) (by simp [nsTail, Bundle.ownAtoms, Bundle.throwableAtoms, Bundle.throwableSAtoms, Bundle.chainSAtoms, Bundle.passSAtoms]))
  cases Option.some.inj (hc1.symm.trans hfound)
  cases Option.some.inj (hkX.symm.trans hk)
  have hsel0 : selectMethod e.platform s.vm P1.m.cls T.fill0 = .method T.fill0 := by
    obtain ⟨c2, r2, m2, q1, q2, q3, q4, -⟩ := Cond.selects_spec (a' (.selects cls Bundle.tFill0 Bundle.tFill0) (by simp [nsTail, Bundle.ownAtoms, Bundle.throwableAtoms, Bundle.throwableSAtoms, Bundle.chainSAtoms, Bundle.passSAtoms]))
    cases Option.some.inj (q1.symm.trans hfound)
    cases Option.some.inj (q2.symm.trans (State.methodFound?_of_named Y.fill0 (by decide)))
    cases Option.some.inj (q3.symm.trans Y.fill0)
    rw [Launch.admits_selectMethod X.admits]; exact q4
  have hselF : selectMethod e.platform s.vm P1.m.cls T.fill = .method T.fill := by
    obtain ⟨c2, r2, m2, q1, q2, q3, q4, -⟩ := Cond.selects_spec (a' (.selects cls Bundle.tFill Bundle.tFill) (by simp [nsTail, Bundle.ownAtoms, Bundle.throwableAtoms, Bundle.throwableSAtoms, Bundle.chainSAtoms, Bundle.passSAtoms]))
    cases Option.some.inj (q1.symm.trans hfound)
    cases Option.some.inj (q2.symm.trans (State.methodFound?_of_named Y.fill (by decide)))
    cases Option.some.inj (q3.symm.trans Y.fill)
    rw [Launch.admits_selectMethod X.admits]; exact q4
  obtain ⟨cellS0, hcS0, hiss⟩ := Y.statics
  obtain ⟨u0, hu0⟩ := Cond.staticRefV Y.unassigned L.unassignedStatic L.statics hcS0 hiss (a' (.isRef (.static Bundle.tN "UNASSIGNED_STACK" Bundle.steD)) (by simp [nsTail, Bundle.ownAtoms, Bundle.throwableAtoms, Bundle.throwableSAtoms, Bundle.chainSAtoms, Bundle.passSAtoms]))
  obtain ⟨sen, hsen⟩ := Cond.staticRefV Y.sentinel L.sentinelStatic L.statics hcS0 hiss (a' (.isRef (.static Bundle.tN "SUPPRESSED_SENTINEL" Bundle.listD)) (by simp [nsTail, Bundle.ownAtoms, Bundle.throwableAtoms, Bundle.throwableSAtoms, Bundle.chainSAtoms, Bundle.passSAtoms]))
  obtain ⟨ci198, i198, fB, hk198, hg198, ha198, hsB, -, hnB, htB, hffB⟩ := Cond.ownField (t := .object "java/lang/Object") Y.found L.cls (by decide +kernel) (a' (.fieldLink Bundle.tN 198 Bundle.tN "backtrace" "Ljava/lang/Object;") (by simp [nsTail, Bundle.ownAtoms, Bundle.throwableAtoms, Bundle.throwableSAtoms, Bundle.chainSAtoms, Bundle.passSAtoms])) (a' (.lays Bundle.tN Bundle.tN "backtrace" "Ljava/lang/Object;") (by simp [nsTail, Bundle.ownAtoms, Bundle.throwableAtoms, Bundle.throwableSAtoms, Bundle.chainSAtoms, Bundle.passSAtoms])) e.platform hpl
  obtain ⟨cellS, hcS', heS, -, hkeep⟩ := X.same.2.2.2.2.2 T.aS cellS0 hcS0
  have hcellS : W.heap[T.aS]? = some cellS := hcS'
  have hout' : ∀ i, (⟨T.aS, i⟩ : Loc) ∉ locs := fun i hmem => by
    have := hlocs _ hmem cellS0 hcS0
    rw [hiss] at this; cases this
  have hknownS : cellS.vm ≠ .unknown := by
    rw [heS]; intro hu
    rw [show cellS0.vm = .unknown from hu] at hiss
    cases hiss
  have hneS : T.aS ≠ a := Nat.ne_of_lt (Nat.lt_of_lt_of_le (Array.getElem?_eq_some_iff.mp hcS0).1 hnew)
  obtain ⟨iM, hffM⟩ := Y.msg
  obtain ⟨tyC, dC, hdC, hdnC⟩ := Cond.laysAt hfound hk Y.cause (a' (.lays cls Bundle.tN "cause" "Ljava/lang/Throwable;") (by simp [nsTail, Bundle.ownAtoms, Bundle.throwableAtoms, Bundle.throwableSAtoms, Bundle.chainSAtoms, Bundle.passSAtoms]))
  obtain ⟨tyS, dS, hdS, hdnS⟩ := Cond.laysAt hfound hk Y.stack (a' (.lays cls Bundle.tN "stackTrace" Bundle.steD) (by simp [nsTail, Bundle.ownAtoms, Bundle.throwableAtoms, Bundle.throwableSAtoms, Bundle.chainSAtoms, Bundle.passSAtoms]))
  obtain ⟨tyP, dP, hdP, hdnP⟩ := Cond.laysAt hfound hk Y.supp (a' (.lays cls Bundle.tN "suppressedExceptions" Bundle.listD) (by simp [nsTail, Bundle.ownAtoms, Bundle.throwableAtoms, Bundle.throwableSAtoms, Bundle.chainSAtoms, Bundle.passSAtoms]))
  obtain ⟨tyM, dM, hdM, hdnM⟩ := Cond.laysAt hfound hk hffM (a' (.lays cls Bundle.tN "detailMessage" "Ljava/lang/String;") (by simp [nsTail, Bundle.ownAtoms, Bundle.throwableAtoms, Bundle.throwableSAtoms, Bundle.chainSAtoms, Bundle.passSAtoms]))
  obtain ⟨tyB, dB, hdB, hdnB⟩ := Cond.laysAt hfound hk hffB (a' (.lays cls Bundle.tN "backtrace" "Ljava/lang/Object;") (by simp [nsTail, Bundle.ownAtoms, Bundle.throwableAtoms, Bundle.throwableSAtoms, Bundle.chainSAtoms, Bundle.passSAtoms]))
  have bC := Cond.laysApart hdB hdC hdnB hdnC (by rw [hnB, Y.causeName]; decide)
  have bS := Cond.laysApart hdB hdS hdnB hdnS (by rw [hnB, Y.stackName]; decide)
  have bP := Cond.laysApart hdB hdP hdnB hdnP (by rw [hnB, Y.suppName]; decide)
  have hskip : SkipFacts T e.platform s (fun u => u) u0 ((preparedCellV T.toThrowableT (freshCell P1.m.cls kX) a u0 sen).withEntry W.cur) :=
    ⟨{ ci198 := ci198, i198 := i198, fBack := fB }, ⟨hk198, hg198, ha198, hsB⟩, by
      have := fresh_default (c := P1.m.cls) tyB
      rw [htB] at this
      simpa [preparedCellV, Cell.setSlot, Cell.withEntry, Array.getElem?_setIfInBounds, bC, bS, bP, bC.symm, bS.symm, bP.symm, defaultValue] using this, fun _ _ => rfl⟩
  obtain ⟨tm, methC, cdC, kC, vm₁, hnC, -, -, -, -, -, -, -, hW₁, st1⟩ := Steps.initColdS (tb := p.tables) (e := e) (below := below) (s := s) (U := W) X.here hexec X.warmed hpl hown (t := Bundle.initS cls) rfl rfl (Bundle.fit_spec hcls).2
    (a' (.methodLink own ic (Bundle.initS cls)) (by simp [nsTail, Bundle.ownAtoms, Bundle.throwableAtoms, Bundle.throwableSAtoms, Bundle.chainSAtoms, Bundle.passSAtoms])) (hPA (.instanceMethod (Bundle.initS cls)) (by simp [Bundle.passSAtoms])) (bytes := bs) (maxL := 2) (hPA (.code (Bundle.initS cls) bs 2 none) (by simp [Bundle.passSAtoms]))
    (f := g) hg (a := a) (msg := msg) (rest := .ref a :: rest) hstack hd6
  cases Option.some.inj (hnC.symm.trans hP1m)
  have X₁ := X.noted hW₁
  obtain ⟨vm₂, X₂, st2⟩ := X₁.ctorMessageOffV hexec (g := { g with stack := .ref a :: rest }) hg hsize T L Z LZ M LM (P1 :: P2 :: Ps)
    (fun P hP => by
      rcases List.mem_cons.mp hP with rfl | hP
      · exact L1
      · rcases List.mem_cons.mp hP with rfl | hP
        · exact L2
        · exact hL P hP) ⟨hlink1, hlink2, hlink⟩ (u0 := u0) (sen := sen) (self := a) hmsg (cell := freshCell P1.m.cls kX) (cellS := cellS)
    hcell (fun _ => by simp) (by simp) rfl rfl hsel0 hselF hcellS hneS hknownS (by rw [hkeep _ (hout' _)]; exact hu0) (by rw [hkeep _ (hout' _)]; exact hsen)
    (Takes.of_laid hk hord tyC (by rw [Y.causeType]; rfl)) (Takes.of_laid hk hord tyS (by rw [Y.stackType]; exact fits_refV_array _ u0)) (Takes.of_laid hk hord tyP (by rw [Y.suppType]; exact fits_refV_object _ sen))
    (Takes.of_laid hk hord tyM (by rw [Y.msgType]; exact fits_refV_object _ ⟨msg, hmsg⟩)) Y.objLocals hskip htr [] hd6
    (by simp only [List.length_cons, hlen]; omega) (by simp only [List.length_cons, hlen]; exact hRlocals)
  obtain ⟨hwalk, hrun, hended, hWU, hsame⟩ := X₂.athrowLeaves hexec (g := { g with stack := .ref a :: rest, pc := g.pc + 3 }) hg hlocked hentered hout (a := a) (rest := rest) rfl hd9
  have hlt : a < ((W.setVm vm₁).setVm vm₂).heap.size := (Array.getElem?_eq_some_iff.mp hcell).1
  have hU := heapAt_setCell_self (s := (W.setVm vm₁).setVm vm₂) (plainBareV T.toThrowableT (freshCell P1.m.cls kX) a u0 sen msg) hlt
  refine ⟨_, st1 _ (fun acts => ?_), hrun, hended, hWU, hsame.weaken (fun y hy hlt' => ?_) (Nat.le_refl _) (Nat.le_refl _), _, hU, rfl, hfound⟩
  · rw [doInvoke_state]
    exact st2 _ hwalk
  · rcases List.mem_append.mp hy with h1 | h1
    · exact h1
    · exfalso
      have hb : y.base = a := by
        simp only [List.mem_cons, List.not_mem_nil, or_false] at h1
        rcases h1 with rfl | rfl | rfl | rfl | rfl <;> rfl
      rw [hb] at hlt'
      exact Nat.not_lt.mpr hnew hlt'
end NSX
section KN
variable {p : Program} {l : Launch} {e : Env} {R : Room} {s : State} {m : MethodId} {args : Array Value} {below : List Frame} {meth : Method} {c : Code} {H : Heap} {locs : List Loc} {cells slots : Nat} {Q : State → Prop}
variable {cc : ByteArray} {pc nL : Nat} {ls : Array Slot} {rest st0 : List Value} {D : va_G} {ad : Nat → Nat} {cA : Nat → ClassId} {A : Nat → Prop} {a : Nat} {g : gv_T} {σ : Sg}
variable {y : MethodName} {b : ByteArray} {n idx : Nat} {ret : Option FieldType} {R' : Room} {av As : List Value} {own C E : String} {hh : List (Nat × Nat × Nat × Nat)} {Q' : Option Value → Sg → Prop} {X' : String → Sg → Prop}
variable {mc ms : Nat} {Qe : Option Value → Sg → Prop} {Xe : String → Sg → Prop}
set_option maxHeartbeats 4000000 in
theorem m_throwN (hq : Xe E σ) {text Y0 : String} {ik is ic idx : Nat} {bs : ByteArray} {names : List String} (i : Nat) (hx : p.tables.exec = Jvm.exec) (hb : c.code = cc) (hfl : l.stackTraces = false) (hown : s.vm.findClass own = some m.cls) (hG : ∀ w ∈ GW, w.before args s = true) (hGV : GV g A s s.heap) (htab : ∀ x ∈ c.exceptionTable.toList, False) (hlocks : meth.locks = false) (hlz : ls.size = c.maxLocals)
    (hcls : Bundle.fit E = true) (hY0 : Bundle.fit Y0 = true) (hnames : ∀ n ∈ names, Bundle.fit n = true)
    (b0 : decode bs 0 = .ok (.aload_n 0, 1)) (b1 : decode bs 1 = .ok (.aload_n 1, 1)) (b2 : decode bs 2 = .ok (.invokespecial idx, 3)) (b5 : decode bs 5 = .ok (.return_, 1))
    (hk : Cond.classLink own ik E ∈ GW) (hini : Cond.initialized E ∈ GW) (hi : STR[i]? = some (own, is, text)) (hat : ∀ w ∈ (nsAll own ic E Y0 idx bs names).filter vx_no, w ∈ lw_tbl ∧ (goodWord w || nwWord w) = true)
    (hP : va_P D vwCl (WL ad cA σ) H) (hD : va_D A (WL ad cA σ)) (hS : va_S A s.heap H locs)
    (d0 : decode cc pc = .ok (.new ik, 3)) (d3 : decode cc (pc + 3) = .ok (.dup, 1)) (d4 : decode cc (pc + 4) = .ok (.ldc is, 2)) (d7 : decode cc (pc + 6) = .ok (.invokespecial ic, 3)) (d10 : decode cc (pc + 9) = .ok (.athrow, 1))
    (hRf : names.length + 4 < R.frames) (hRl : (rest.map fun v => v.category).sum + (13 * (names.length + 2) + 43) ≤ R.locals) (hRc : cells + 1 ≤ R.cells) (hRs : slots + 6 ≤ R.slots) (hc : cells + 1 ≤ mc) (hs : slots + 6 ≤ ms) :
    W p l e R s m args below meth c H locs cells slots (vx_MQ below (QM D ad cA A Qe) (XM D ad cA A Xe) args s mc ms A) (F0 m pc ls rest) := by
  have hat2 : ∀ w ∈ (nsAll own ic E Y0 idx bs names).filter vx_no, w.before args s = true := by
    intro w hw
    obtain ⟨h1, h2⟩ := hat w hw
    rcases Bool.or_eq_true_iff.mp h2 with h | h
    · exact hG w (List.mem_filter.mpr ⟨h1, h⟩)
    · exact va_Nw.use (nw_tab h) (hGV.nw w (List.mem_filter.mpr ⟨h1, h⟩))
  have hgood : ∀ w ∈ (nsAll own ic E Y0 idx bs names).filter vx_no, vx_ot w = true := by
    intro w hw
    rcases Bool.or_eq_true_iff.mp (hat w hw).2 with h | h
    · unfold vx_ot; rw [h]; exact Bool.or_true _
    · unfold vx_ot; rw [nw_tab h]; rfl
  have hkb := hG _ hk
  have hinib := hG _ hini
  have hstr := hGV.str i _ hi
  intro T hT X
  have htr : e.platform.stackTraces = false := (show e.platform.stackTraces = l.stackTraces by rw [X.admits.platform]).trans hfl
  have Y := vx_rebase X (R' := { frames := R.frames, locals := R.locals, cells := 1, slots := 6 }) (Nat.le_refl _) (Nat.le_refl _) hRc hRs
  obtain ⟨s', hA⟩ : ∃ z, z = (T.setVm s.vm).setFrames (.invoking m args :: below) := ⟨_, rfl⟩
  rw [← hA] at Y
  have hvm : s'.vm = s.vm := by rw [hA]; rfl
  have hhp : s'.heap = H := by rw [hA]; exact hT
  have hW0 : s.WarmedH s'.vm := by rw [hvm]; exact State.WarmedH.refl s
  have hat' : ∀ w ∈ (nsAll own ic E Y0 idx bs names).filter vx_no, w.before args s' = true := fun w hw => vx_ot_at hW0 hvm.symm (hgood w hw) (hat2 w hw)
  have hk' : (Cond.classLink own ik E).before args s' = true := vx_ot_at hW0 hvm.symm rfl hkb
  have hini' : (Cond.initialized E).before args s' = true := vx_ot_at hW0 hvm.symm rfl hinib
  have hU' : vx_Zq Bundle.tN "UNASSIGNED_STACK" Bundle.steD A s' s'.heap := by rw [hhp]; exact vx_Zq.moved hW0.alike (hGV.th.1.kept hS.2.1)
  have hN' : vx_Zq Bundle.tN "SUPPRESSED_SENTINEL" Bundle.listD A s' s'.heap := by rw [hhp]; exact vx_Zq.moved hW0.alike (hGV.th.2.kept hS.2.1)
  have h : ∀ w ∈ nsAll own ic E Y0 idx bs names, w.before args s' = true := vx_own hat' (vx_isRefq hU'.1) (vx_isRefq hN'.1) hU'.2.word hN'.2.word
  have hown' : s'.vm.findClass own = some m.cls := by rw [hvm]; exact hown
  have hins : (Cond.instantiable E 6).before args s' = true := h _ (by simp [nsAll, nsTail, Bundle.ownAtoms, Bundle.throwableAtoms, Bundle.throwableSAtoms, Bundle.chainSAtoms, Bundle.passSAtoms])
  obtain ⟨vm₁, cX, kX, hfX, hkX, -, -, X₁, st1⟩ := Y.newCold hx (own := own) (C := E) (index := ik) (n := 6) hown' hk' hins hini'
    (g := F0 m pc ls rest) rfl (by rw [hb]; exact d0) (Nat.le_refl _) (Nat.le_refl _)
  generalize hT1 : (T.setVm vm₁).pushCell { cls := cX, slots := kX.instanceTypes.map defaultValue, vm := .none } = T1 at X₁ st1
  have hcat : (Value.ref T.heap.size).category = 1 := rfl
  have hcellA : T1.heap[T.heap.size]? = some (freshCell cX kX) := by rw [← hT1]; exact State.heap_pushCell_size _ _
  have d3' : decode c.code (pc + 3) = .ok (.dup, 1) := by rw [hb]; exact d3
  have d4' : decode c.code (pc + 4) = .ok (.ldc is, 2) := by rw [hb]; exact d4
  have hstr' : vk_R own is text (g.2.1 i) s' := vk_R.warm hW0 hstr
  obtain ⟨U, hsteps, hrun, hend, hW, hsame, ce, hce, hcv, hcl0⟩ := ns_ctor X₁ hx htr (own := own) (cls := E) (Y0 := Y0) (names := names) (ic := ic) (idx := idx) (bs := bs) hown' hcls hY0 hnames b0 b1 b2 b5 h (fun x hx => nomatch hx) hfX hkX hcellA (by rw [hhp, hT]; exact Nat.le_refl _) (msg := .ref (g.2.1 i)) rfl
    (g := { method := m, pc := pc + 6, locals := ls, stack := .ref (g.2.1 i) :: .ref T.heap.size :: .ref T.heap.size :: rest, locked := none }) rfl hlz rfl rfl (rest := rest) rfl
    (by rw [hb]; exact d7) (by rw [hb]; exact d10) (fun x hx => (htab x hx).elim) hRf (by simp only [List.map_cons, List.sum_cons, hcat]; omega) hlocks
  obtain ⟨f1, f2⟩ := vx_frame hsame
  rw [hhp] at f1 f2
  have hWs : s.WarmedH U.vm := State.WarmedH.trans hW0 hW
  have hcl : s.vm.findClass E = some ce.cls := by
    have h9 := hcl0
    rw [hvm] at h9
    exact h9
  have hall : s.sameButNew ({ U with vm := s.vm } : State) locs mc ms := by
    subst hA
    obtain ⟨e1, e2⟩ := hsame
    rw [State.setFrames_setFrames] at e1
    have h2 : (T.setVm s.vm).sameButNew ({ U with vm := s.vm } : State) [] (0 + 1) (0 + 6) := ⟨e1, e2⟩
    have h3 := X.same.trans h2
    rw [List.append_nil] at h3
    exact h3.mono hc hs
  have hkp : ∀ q : Nat, q < H.size → U.heap[q]? = H[q]? := fun q hq => f2 q hq (fun z hz => nomatch hz)
  refine ⟨U, ?_, .threw T.heap.size, hrun, hend, Or.inr ⟨T.heap.size, rfl, E, ce, locs, ⟨⟨σ, hq, hP.kept (fun k z hz9 => hkp _ (hP k z hz9).lt), hD⟩, Nat.le_trans hS.1 f1, fun x h1 h2 => by rw [hkp x (Nat.lt_of_lt_of_le h1 hS.1)]; exact hS.2.1 x h1 h2⟩, hce, hcv, hcl, hWs, hall, hS.2.2⟩⟩
  refine st1 _ ?_
  show Steps p.tables e below (T1.setTop { method := m, pc := pc + 3, locals := ls, stack := .ref T.heap.size :: rest, locked := none }) _
  jvm_step X₁.here [X₁.here.top, hx, d3', Value.category]
  exact X₁.ldcString hx (own := own) (text := text) (index := is) (a := g.2.1 i) hown' hstr'.1 hstr'.2
    (g := { method := m, pc := pc + 4, locals := ls, stack := .ref T.heap.size :: .ref T.heap.size :: rest, locked := none }) rfl d4' _ hsteps
set_option maxHeartbeats 4000000 in
theorem m_throwNW (hq : Xe E σ) {text Y0 : String} {ik is ic idx : Nat} {bs : ByteArray} {names : List String} (i : Nat) (hx : p.tables.exec = Jvm.exec) (hb : c.code = cc) (hfl : l.stackTraces = false) (hown : s.vm.findClass own = some m.cls) (hG : ∀ w ∈ GW, w.before args s = true) (hGV : GV g A s s.heap) (htab : ∀ x ∈ c.exceptionTable.toList, False) (hlocks : meth.locks = false) (hlz : ls.size = c.maxLocals)
    (hcls : Bundle.fit E = true) (hY0 : Bundle.fit Y0 = true) (hnames : ∀ n ∈ names, Bundle.fit n = true)
    (b0 : decode bs 0 = .ok (.aload_n 0, 1)) (b1 : decode bs 1 = .ok (.aload_n 1, 1)) (b2 : decode bs 2 = .ok (.invokespecial idx, 3)) (b5 : decode bs 5 = .ok (.return_, 1))
    (hk : Cond.classLink own ik E ∈ GW) (hini : Cond.initialized E ∈ GW) (hi : STR[i]? = some (own, is, text)) (hat : ∀ w ∈ (nsAll own ic E Y0 idx bs names).filter vx_no, w ∈ lw_tbl ∧ (goodWord w || nwWord w) = true)
    (hP : va_P D vwCl (WL ad cA σ) H) (hD : va_D A (WL ad cA σ)) (hS : va_S A s.heap H locs)
    (d0 : decode cc pc = .ok (.new ik, 3)) (d3 : decode cc (pc + 3) = .ok (.dup, 1)) (d4 : decode cc (pc + 4) = .ok (.ldc_w is, 3)) (d7 : decode cc (pc + 7) = .ok (.invokespecial ic, 3)) (d10 : decode cc (pc + 10) = .ok (.athrow, 1))
    (hRf : names.length + 4 < R.frames) (hRl : (rest.map fun v => v.category).sum + (13 * (names.length + 2) + 43) ≤ R.locals) (hRc : cells + 1 ≤ R.cells) (hRs : slots + 6 ≤ R.slots) (hc : cells + 1 ≤ mc) (hs : slots + 6 ≤ ms) :
    W p l e R s m args below meth c H locs cells slots (vx_MQ below (QM D ad cA A Qe) (XM D ad cA A Xe) args s mc ms A) (F0 m pc ls rest) := by
  have hat2 : ∀ w ∈ (nsAll own ic E Y0 idx bs names).filter vx_no, w.before args s = true := by
    intro w hw
    obtain ⟨h1, h2⟩ := hat w hw
    rcases Bool.or_eq_true_iff.mp h2 with h | h
    · exact hG w (List.mem_filter.mpr ⟨h1, h⟩)
    · exact va_Nw.use (nw_tab h) (hGV.nw w (List.mem_filter.mpr ⟨h1, h⟩))
  have hgood : ∀ w ∈ (nsAll own ic E Y0 idx bs names).filter vx_no, vx_ot w = true := by
    intro w hw
    rcases Bool.or_eq_true_iff.mp (hat w hw).2 with h | h
    · unfold vx_ot; rw [h]; exact Bool.or_true _
    · unfold vx_ot; rw [nw_tab h]; rfl
  have hkb := hG _ hk
  have hinib := hG _ hini
  have hstr := hGV.str i _ hi
  intro T hT X
  have htr : e.platform.stackTraces = false := (show e.platform.stackTraces = l.stackTraces by rw [X.admits.platform]).trans hfl
  have Y := vx_rebase X (R' := { frames := R.frames, locals := R.locals, cells := 1, slots := 6 }) (Nat.le_refl _) (Nat.le_refl _) hRc hRs
  obtain ⟨s', hA⟩ : ∃ z, z = (T.setVm s.vm).setFrames (.invoking m args :: below) := ⟨_, rfl⟩
  rw [← hA] at Y
  have hvm : s'.vm = s.vm := by rw [hA]; rfl
  have hhp : s'.heap = H := by rw [hA]; exact hT
  have hW0 : s.WarmedH s'.vm := by rw [hvm]; exact State.WarmedH.refl s
  have hat' : ∀ w ∈ (nsAll own ic E Y0 idx bs names).filter vx_no, w.before args s' = true := fun w hw => vx_ot_at hW0 hvm.symm (hgood w hw) (hat2 w hw)
  have hk' : (Cond.classLink own ik E).before args s' = true := vx_ot_at hW0 hvm.symm rfl hkb
  have hini' : (Cond.initialized E).before args s' = true := vx_ot_at hW0 hvm.symm rfl hinib
  have hU' : vx_Zq Bundle.tN "UNASSIGNED_STACK" Bundle.steD A s' s'.heap := by rw [hhp]; exact vx_Zq.moved hW0.alike (hGV.th.1.kept hS.2.1)
  have hN' : vx_Zq Bundle.tN "SUPPRESSED_SENTINEL" Bundle.listD A s' s'.heap := by rw [hhp]; exact vx_Zq.moved hW0.alike (hGV.th.2.kept hS.2.1)
  have h : ∀ w ∈ nsAll own ic E Y0 idx bs names, w.before args s' = true := vx_own hat' (vx_isRefq hU'.1) (vx_isRefq hN'.1) hU'.2.word hN'.2.word
  have hown' : s'.vm.findClass own = some m.cls := by rw [hvm]; exact hown
  have hins : (Cond.instantiable E 6).before args s' = true := h _ (by simp [nsAll, nsTail, Bundle.ownAtoms, Bundle.throwableAtoms, Bundle.throwableSAtoms, Bundle.chainSAtoms, Bundle.passSAtoms])
  obtain ⟨vm₁, cX, kX, hfX, hkX, -, -, X₁, st1⟩ := Y.newCold hx (own := own) (C := E) (index := ik) (n := 6) hown' hk' hins hini'
    (g := F0 m pc ls rest) rfl (by rw [hb]; exact d0) (Nat.le_refl _) (Nat.le_refl _)
  generalize hT1 : (T.setVm vm₁).pushCell { cls := cX, slots := kX.instanceTypes.map defaultValue, vm := .none } = T1 at X₁ st1
  have hcat : (Value.ref T.heap.size).category = 1 := rfl
  have hcellA : T1.heap[T.heap.size]? = some (freshCell cX kX) := by rw [← hT1]; exact State.heap_pushCell_size _ _
  have d3' : decode c.code (pc + 3) = .ok (.dup, 1) := by rw [hb]; exact d3
  have d4' : decode c.code (pc + 4) = .ok (.ldc_w is, 3) := by rw [hb]; exact d4
  have hstr' : vk_R own is text (g.2.1 i) s' := vk_R.warm hW0 hstr
  obtain ⟨U, hsteps, hrun, hend, hW, hsame, ce, hce, hcv, hcl0⟩ := ns_ctor X₁ hx htr (own := own) (cls := E) (Y0 := Y0) (names := names) (ic := ic) (idx := idx) (bs := bs) hown' hcls hY0 hnames b0 b1 b2 b5 h (fun x hx => nomatch hx) hfX hkX hcellA (by rw [hhp, hT]; exact Nat.le_refl _) (msg := .ref (g.2.1 i)) rfl
    (g := { method := m, pc := pc + 7, locals := ls, stack := .ref (g.2.1 i) :: .ref T.heap.size :: .ref T.heap.size :: rest, locked := none }) rfl hlz rfl rfl (rest := rest) rfl
    (by rw [hb]; exact d7) (by rw [hb]; exact d10) (fun x hx => (htab x hx).elim) hRf (by simp only [List.map_cons, List.sum_cons, hcat]; omega) hlocks
  obtain ⟨f1, f2⟩ := vx_frame hsame
  rw [hhp] at f1 f2
  have hWs : s.WarmedH U.vm := State.WarmedH.trans hW0 hW
  have hcl : s.vm.findClass E = some ce.cls := by
    have h9 := hcl0
    rw [hvm] at h9
    exact h9
  have hall : s.sameButNew ({ U with vm := s.vm } : State) locs mc ms := by
    subst hA
    obtain ⟨e1, e2⟩ := hsame
    rw [State.setFrames_setFrames] at e1
    have h2 : (T.setVm s.vm).sameButNew ({ U with vm := s.vm } : State) [] (0 + 1) (0 + 6) := ⟨e1, e2⟩
    have h3 := X.same.trans h2
    rw [List.append_nil] at h3
    exact h3.mono hc hs
  have hkp : ∀ q : Nat, q < H.size → U.heap[q]? = H[q]? := fun q hq => f2 q hq (fun z hz => nomatch hz)
  refine ⟨U, ?_, .threw T.heap.size, hrun, hend, Or.inr ⟨T.heap.size, rfl, E, ce, locs, ⟨⟨σ, hq, hP.kept (fun k z hz9 => hkp _ (hP k z hz9).lt), hD⟩, Nat.le_trans hS.1 f1, fun x h1 h2 => by rw [hkp x (Nat.lt_of_lt_of_le h1 hS.1)]; exact hS.2.1 x h1 h2⟩, hce, hcv, hcl, hWs, hall, hS.2.2⟩⟩
  refine st1 _ ?_
  show Steps p.tables e below (T1.setTop { method := m, pc := pc + 3, locals := ls, stack := .ref T.heap.size :: rest, locked := none }) _
  jvm_step X₁.here [X₁.here.top, hx, d3', Value.category]
  exact X₁.ldcStringW hx (own := own) (text := text) (index := is) (a := g.2.1 i) hown' hstr'.1 hstr'.2
    (g := { method := m, pc := pc + 4, locals := ls, stack := .ref T.heap.size :: .ref T.heap.size :: rest, locked := none }) rfl d4' _ hsteps
end KN
end
