/-! THE CLAIM OUT OF ONE WALK OF THE LAW'S BODY. Your part is whole_start (and what it stands on); all else here is the same for every law, but numbers. -/
def R_law : String := "WordLearnerLaw"
def lw_P (b : Addr) (xs : List Int32) (args : Array Value) (s : State) : Prop := args = #[.ref b] ∧ s.IntsAt b xs ∧ xs.length ≤ 4096 ∧ (Jvm.Cond.and given_1 narrow_1).before args s = true
/-- what a walk over the start with the record d0 says of its end, said of the start itself -/
theorem lw_closed {s t : State} {o : Outcome} {d0 : Drawn} {L : List Loc} {k n : Nat} (hd0 : s.drawn.sameBut d0 lw_cs) (hv : ∃ v, o = .returned v) (hW : (s.setDrawn d0).WarmedH t.vm) (hs : (s.setDrawn d0).sameButNew ({ t with vm := s.vm } : State) L k n) : State.butDraws s t lw_cs (fun t1 => Framed s o t1 L k n) := by
  have h2 : t.drawn = d0 := congrArg State.drawn hs.1
  refine ⟨⟨hv, hW, State.sameButNew.setDrawn hs s.drawn⟩, ?_, by decide⟩
  rw [h2]
  exact hd0
def lw_Q (_ : Array Value) (s : State) (o : Outcome) (t : State) : Prop := o = .returned (some (.int 1)) ∧ State.butDraws s t lw_cs (fun t1 => Framed s o t1 [] 600000 7302250)
def lw_Z (below : List Frame) (a : Array Value) (s : State) : State → Prop := fun t => ∃ o, t.status = .running ∧ Ended t below o ∧ lw_Q a s o t
/-- the law's own end, with 1 on the stack, nothing written that was there before, its room as the claim has it; d0: the record of draws at this point (at the entry s.drawn: begin with 'refine W.base ?_' and 'have hd0 := Drawn.sameBut.refl s.drawn lw_cs') -/
theorem lw_ret {p : Program} {l : Launch} {e : Env} {s : State} {m : MethodId} {below : List Frame} {meth : Method} {c : Code} {b : Nat} {d0 : Drawn} (hd0 : s.drawn.sameBut d0 lw_cs) (hx : p.tables.exec = Jvm.exec) (hb : c.code = code) (hr : meth.sig.returnType = ret) (hlocks : meth.locks = false) {pc : Nat} {H : Heap} {ls : Array Slot} (hdg : decode code pc = .ok (.ireturn, 1)) : W p l e room_1 (s.setDrawn d0) m #[Value.ref b] below meth c H [] 600000 7302250 (lw_Z below #[Value.ref b] s) (F0 m pc ls [.int 1]) := by
  intro T hT X
  obtain ⟨fs, hret, hrun, hended, hW, hframe⟩ := X.leave (v := some (.int 1)) (hlocks := hlocks) (fun h => by rw [hr] at h; cases h)
  have hmeth' : T.vm.method? m = some meth := X.method'
  refine ⟨T.setFrames fs, ?_, .returned (some (.int 1)), hrun, hended, rfl, lw_closed hd0 ⟨_, rfl⟩ hW hframe⟩
  jvm_step X.here [X.here.top, hx, hb, hdg, hmeth', hr, ret, narrow_b1]
  (try refine ⟨rfl, ?_⟩); (try refine ⟨rfl, ?_⟩)
  first | (intro acts; rw [hret _ acts rfl rfl rfl]) | rw [hret _ _ rfl rfl rfl]
  exact Steps.refl _
/-- what holds at the law's entry: the machine, the code, the tables' words (any of lw_tbl by 'hts w (by decide +kernel)'), the script of L ints xs at the cell b, what the Statement gives of the start (any of its parts by flat_of_before) -/
def lw_At (p : Program) (s : State) (m : MethodId) (meth : Method) (c : Code) (b L : Nat) (xs : Nat → Int32) : Prop :=
  p.tables.exec = Jvm.exec ∧ c.code = code ∧ meth.sig.returnType = ret ∧ c.maxLocals = 4 ∧ s.vm.findClass R_law = some m.cls ∧ (∀ w ∈ lw_tbl, w.before #[Value.ref b] s = true) ∧ va_X b L xs s s.heap ∧ b < s.heap.size ∧ meth.locks = false ∧ (Jvm.Cond.and given_1 narrow_1).before #[Value.ref b] s = true
/-- call 0, feed: class and reference answer alike, and what holds holds on -/
def St_feed (Inv : Dm → Prop) : Prop := (∀ (D : Dm), Inv D → ∀ (a1 a2 a3 a4 a5 : Int32) , ∃ r D1 D2, f_X11_feed a1 a2 a3 a4 a5 D = some (r, D1) ∧ f_X12_feed a1 a2 a3 a4 a5 D1 = some (r, D2) ∧ Inv D2)
/-- call 1, machine: class and reference answer alike, and what holds holds on -/
def St_machine (Inv : Dm → Prop) : Prop := (∀ (D : Dm), Inv D → ∀ (a1 a2 : Int32) , ∃ r D1 D2, f_X11_machine a1 a2 D = some (r, D1) ∧ f_X12_machine a1 a2 D1 = some (r, D2) ∧ Inv D2)
/-- call 2, word: class and reference answer alike, and what holds holds on -/
def St_word (Inv : Dm → Prop) : Prop := (∀ (D : Dm), Inv D → ∀ (a1 : Int32) , ∃ r D1 D2, f_X11_word a1 D = some (r, D1) ∧ f_X12_word a1 D1 = some (r, D2) ∧ Inv D2)
/-- call 3, fault: class and reference answer alike, and what holds holds on -/
def St_fault (Inv : Dm → Prop) : Prop := (∀ (D : Dm), Inv D → ∀ (a1 : Int32) , ∃ r D1 D2, f_X11_fault a1 D = some (r, D1) ∧ f_X12_fault a1 D1 = some (r, D2) ∧ Inv D2)
/-- call 4, accept: class and reference answer alike, and what holds holds on -/
def St_accept (Inv : Dm → Prop) : Prop := (∀ (D : Dm), Inv D → ∀ (a1 a2 a3 : Int32) , ∃ r D1 D2, f_X11_accept a1 a2 a3 D = some (r, D1) ∧ f_X12_accept a1 a2 a3 D1 = some (r, D2) ∧ Inv D2)
/-- call 5, move: class and reference answer alike, and what holds holds on -/
def St_move (Inv : Dm → Prop) : Prop := (∀ (D : Dm), Inv D → ∀ (a1 a2 a3 a4 a5 a6 a7 : Int32) , ∃ r D1 D2, f_X11_move a1 a2 a3 a4 a5 a6 a7 D = some (r, D1) ∧ f_X12_move a1 a2 a3 a4 a5 a6 a7 D1 = some (r, D2) ∧ Inv D2)
/-- call 6, of: class and reference answer alike, and what holds holds on -/
def St_of (Inv : Dm → Prop) : Prop := (∀ (D : Dm), Inv D → ∀ (a1 a2 : Int32) , ∃ r D1 D2, f_X11_of a1 a2 D = some (r, D1) ∧ f_X12_of a1 a2 D1 = some (r, D2) ∧ Inv D2)
/-- call 7, moved: class and reference answer alike, and what holds holds on -/
def St_moved (Inv : Dm → Prop) : Prop := (∀ (D : Dm), Inv D → ∀ (a1 a2 a3 a4 a5 : Int32) , ∃ r D1 D2, f_X11_moved a1 a2 a3 a4 a5 D = some (r, D1) ∧ f_X12_moved a1 a2 a3 a4 a5 D1 = some (r, D2) ∧ Inv D2)
/-- call 8, ask: class and reference answer alike, and what holds holds on -/
def St_ask (Inv : Dm → Prop) : Prop := (∀ (D : Dm), Inv D → ∀ (a1 : Int32) , ∃ r D1 D2, f_X11_ask a1 D = some (r, D1) ∧ f_X12_ask a1 D1 = some (r, D2) ∧ Inv D2)
/-- call 9, behind: class and reference answer alike, and what holds holds on -/
def St_behind (Inv : Dm → Prop) : Prop := (∀ (D : Dm), Inv D → ∀ (a1 a2 a3 : Int32) , ∃ r D1 D2, f_X11_behind a1 a2 a3 D = some (r, D1) ∧ f_X12_behind a1 a2 a3 D1 = some (r, D2) ∧ Inv D2)
/-- call 10, many: class and reference answer alike, and what holds holds on -/
def St_many (Inv : Dm → Prop) : Prop := (∀ (D : Dm), Inv D → ∀ (a1 a2 : Int32) , ∃ r D1 D2, f_X11_many a1 a2 D = some (r, D1) ∧ f_X12_many a1 a2 D1 = some (r, D2) ∧ Inv D2)
/-- call 11, share: class and reference answer alike, and what holds holds on -/
def St_share (Inv : Dm → Prop) : Prop := (∀ (D : Dm), Inv D → ∀ (a1 a2 : Int32) , ∃ r D1 D2, f_X11_share a1 a2 D = some (r, D1) ∧ f_X12_share a1 a2 D1 = some (r, D2) ∧ Inv D2)
/-- call 12, differ: class and reference answer alike, and what holds holds on -/
def St_differ (Inv : Dm → Prop) : Prop := (∀ (D : Dm), Inv D → ∃ r D1 D2, f_X11_differ D = some (r, D1) ∧ f_X12_differ D1 = some (r, D2) ∧ Inv D2)
/-- call 13, differs: class and reference answer alike, and what holds holds on -/
def St_differs (Inv : Dm → Prop) : Prop := (∀ (D : Dm), Inv D → ∀ (a1 a2 : Int32) , ∃ r D1 D2, f_X11_differs a1 a2 D = some (r, D1) ∧ f_X12_differs a1 a2 D1 = some (r, D2) ∧ Inv D2)
/-- call 14, couples: class and reference answer alike, and what holds holds on -/
def St_couples (Inv : Dm → Prop) : Prop := (∀ (D : Dm), Inv D → ∃ r D1 D2, f_X11_couples D = some (r, D1) ∧ f_X12_couples D1 = some (r, D2) ∧ Inv D2)
/-- call 15, letter: class and reference answer alike, and what holds holds on -/
def St_letter (Inv : Dm → Prop) : Prop := (∀ (D : Dm), Inv D → ∀ (a1 a2 : Int32) , ∃ r D1 D2, f_X11_letter a1 a2 D = some (r, D1) ∧ f_X12_letter a1 a2 D1 = some (r, D2) ∧ Inv D2)
/-- call 16, remembered: class and reference answer alike, and what holds holds on -/
def St_remembered (Inv : Dm → Prop) : Prop := (∀ (D : Dm), Inv D → ∃ r D1 D2, f_X11_remembered D = some (r, D1) ∧ f_X12_remembered D1 = some (r, D2) ∧ Inv D2)
/-- call 17, alike: class and reference answer alike, and what holds holds on -/
def St_alike (Inv : Dm → Prop) : Prop := (∀ (D : Dm), Inv D → ∀ (a1 : Int32) , ∃ r D1 D2, f_X11_alike a1 D = some (r, D1) ∧ f_X12_alike a1 D1 = some (r, D2) ∧ Inv D2)
/-- call 18, begin: class and reference answer alike, and what holds holds on -/
def St_begin (Inv : Dm → Prop) : Prop := (∀ (D : Dm), Inv D → ∃ r D1 D2, f_X11_begin D = some (r, D1) ∧ f_X12_begin D1 = some (r, D2) ∧ Inv D2)
/-- call 19, step: class and reference answer alike, and what holds holds on -/
def St_step (Inv : Dm → Prop) : Prop := (∀ (D : Dm), Inv D → ∃ r D1 D2, f_X11_step D = some (r, D1) ∧ f_X12_step D1 = some (r, D2) ∧ Inv D2)
/-- call 20, learn: class and reference answer alike, and what holds holds on -/
def St_learn (Inv : Dm → Prop) : Prop := (∀ (D : Dm), Inv D → ∃ r D1 D2, f_X11_learn D = some (r, D1) ∧ f_X12_learn D1 = some (r, D2) ∧ Inv D2)
/-- call 21, brief: class and reference answer alike, and what holds holds on -/
def St_brief (Inv : Dm → Prop) : Prop := (∀ (D : Dm), Inv D → ∀ (a1 a2 a3 : Int32) , ∃ r D1 D2, f_X11_brief a1 a2 a3 D = some (r, D1) ∧ f_X12_brief a1 a2 a3 D1 = some (r, D2) ∧ Inv D2)
/-- call 22, test: class and reference answer alike, and what holds holds on -/
def St_test (Inv : Dm → Prop) : Prop := (∀ (D : Dm), Inv D → ∀ (a1 a2 a3 : Int32) , ∃ r D1 D2, f_X11_test a1 a2 a3 D = some (r, D1) ∧ f_X12_test a1 a2 a3 D1 = some (r, D2) ∧ Inv D2)
/-- call 23, registers: class and reference answer alike, and what holds holds on -/
def St_registers (Inv : Dm → Prop) : Prop := (∀ (D : Dm), Inv D → ∀ (a1 : Int32) , ∃ r D1 D2, f_X11_registers a1 D = some (r, D1) ∧ f_X12_registers a1 D1 = some (r, D2) ∧ Inv D2)
/-- call 24, goes: class and reference answer alike, and what holds holds on -/
def St_goes (Inv : Dm → Prop) : Prop := (∀ (D : Dm), Inv D → ∀ (a1 a2 a3 : Int32) , ∃ r D1 D2, f_X11_goes a1 a2 a3 D = some (r, D1) ∧ f_X12_goes a1 a2 a3 D1 = some (r, D2) ∧ Inv D2)
/-- call 25, stands: class and reference answer alike, and what holds holds on -/
def St_stands (Inv : Dm → Prop) : Prop := (∀ (D : Dm), Inv D → ∃ r D1 D2, f_X11_stands D = some (r, D1) ∧ f_X12_stands D1 = some (r, D2) ∧ Inv D2)
/-- call 26, guess: class and reference answer alike, and what holds holds on -/
def St_guess (Inv : Dm → Prop) : Prop := (∀ (D : Dm), Inv D → ∃ r D1 D2, f_X11_guess D = some (r, D1) ∧ f_X12_guess D1 = some (r, D2) ∧ Inv D2)
/-- call 27, guessed: class and reference answer alike, and what holds holds on -/
def St_guessed (Inv : Dm → Prop) : Prop := (∀ (D : Dm), Inv D → ∀ (a1 a2 : Int32) , ∃ r D1 D2, f_X11_guessed a1 a2 D = some (r, D1) ∧ f_X12_guessed a1 a2 D1 = some (r, D2) ∧ Inv D2)
/-- call 28, refutes: class and reference answer alike, and what holds holds on -/
def St_refutes (Inv : Dm → Prop) : Prop := (∀ (D : Dm), Inv D → ∀ (a1 a2 : Int32) , ∃ r D1 D2, f_X11_refutes a1 a2 D = some (r, D1) ∧ f_X12_refutes a1 a2 D1 = some (r, D2) ∧ Inv D2)
/-- call 29, splits: class and reference answer alike, and what holds holds on -/
def St_splits (Inv : Dm → Prop) : Prop := (∀ (D : Dm), Inv D → ∃ r D1 D2, f_X11_splits D = some (r, D1) ∧ f_X12_splits D1 = some (r, D2) ∧ Inv D2)
/-- call 30, spare: class and reference answer alike, and what holds holds on -/
def St_spare (Inv : Dm → Prop) : Prop := (∀ (D : Dm), Inv D → ∃ r D1 D2, f_X11_spare D = some (r, D1) ∧ f_X12_spare D1 = some (r, D2) ∧ Inv D2)
/-- call 31, count: class and reference answer alike, and what holds holds on -/
def St_count (Inv : Dm → Prop) : Prop := (∀ (D : Dm), Inv D → ∀ (a1 : Int32) , ∃ r D1 D2, f_X11_count a1 D = some (r, D1) ∧ f_X12_count a1 D1 = some (r, D2) ∧ Inv D2)
def StepOK (Inv : Dm → Prop) : Prop := St_feed Inv ∧ St_machine Inv ∧ St_word Inv ∧ St_fault Inv ∧ St_accept Inv ∧ St_move Inv ∧ St_of Inv ∧ St_moved Inv ∧ St_ask Inv ∧ St_behind Inv ∧ St_many Inv ∧ St_share Inv ∧ St_differ Inv ∧ St_differs Inv ∧ St_couples Inv ∧ St_letter Inv ∧ St_remembered Inv ∧ St_alike Inv ∧ St_begin Inv ∧ St_step Inv ∧ St_learn Inv ∧ St_brief Inv ∧ St_test Inv ∧ St_registers Inv ∧ St_goes Inv ∧ St_stands Inv ∧ St_guess Inv ∧ St_guessed Inv ∧ St_refutes Inv ∧ St_splits Inv ∧ St_spare Inv ∧ St_count Inv
theorem law_in {n k L : Nat} {c : Int32} (hL : L ≤ 4096) (hc : c = Int32.ofNat k) (h : n + k < L) : vp_in (nI n + c) L := by
  rw [hc, show nI n + Int32.ofNat k = nI (n + k) from nI_add n k]
  exact vp_in_nI h (by omega)
theorem law_n8 {n L : Nat} (hL : L ≤ 4096) (hn : n ≤ 5000) (h : ¬ Int32.ofNat L - 8 < nI n) : n + 8 ≤ L := by
  rw [Int32.lt_iff_toInt_lt] at h
  have e1 : (Int32.ofNat L - 8).toInt = (L : Int) - 8 := by
    rw [Int32.toInt_sub, Int32.toInt_ofNat_of_lt (by omega), show (8 : Int32).toInt = 8 from rfl]
    rw [Int.bmod_eq_of_le (by omega) (by omega)]
  rw [e1, nI_toInt (by omega)] at h
  omega
theorem law_and (x : Int32) : ∃ k : Nat, k < 32 ∧ (x &&& 31) = Int32.ofNat k := by
  refine ⟨(x &&& 31).toBitVec.toNat, ?_, ?_⟩
  · have : (x &&& 31).toBitVec = x.toBitVec &&& 31#32 := rfl
    rw [this, BitVec.toNat_and]
    exact Nat.lt_of_le_of_lt Nat.and_le_right (by decide)
  · apply Int32.toBitVec_inj.mp
    show (x &&& 31).toBitVec = BitVec.ofNat 32 _
    rw [BitVec.ofNat_toNat]
    exact (BitVec.setWidth_eq _).symm
section LAWROW
variable {p : Program} {l : Launch} {e : Env} {R : Room} {s : State} {m : MethodId} {args : Array Value} {below : List Frame} {meth : Method} {c : Code} {H : Heap} {locs : List Loc} {cells slots : Nat} {Q : State → Prop}
variable {cc : ByteArray} {pc : Nat} {ls : Array Slot} {rest : List Value} {G : va_G} {tA : Nat → ClassId} {z : Nat} {E : Ex} {L : List Sh} {D : Dm} {own : String} {index nL : Nat}
theorem hl_call {y : MethodName} {C : String} {bytes : ByteArray} {mL : Nat} {rt : Option FieldType} {n d i ci : Nat} {r : Int32} {D1 : Dm} {As st : List Value} {fs : List Sf} {T : u_T} {N : Nat} (O : Ok G tA z E cc own nL p s m args c) (hH : Hp G tA z L D s.heap H locs) (hM : CtI l y bytes mL rt G tA z E d 0 0 (.ref (z + i) :: As) L D r L D1) (ml : MLV own index C y bytes mL rt n) (hi : L[i]? = some (.inr (.inr (ci, fs)))) (hc : classes[ci]? = some (C, T, N)) (hn : As.length = n) (hsz : ls.size = nL) (hst : st = As.reverse ++ .ref (z + i) :: rest) (hR : d + 1 ≤ R.frames ∧ 64 * (d + 1) ≤ R.locals) (hrest : (rest.map fun v => v.category).sum ≤ 8) (hf : cells ≤ R.cells ∧ slots ≤ R.slots) (hdg : decode cc pc = .ok (.invokevirtual index, 3))
    (kk : ∀ (H1 : Heap) (locs1 : List Loc), Hp G tA z L D1 s.heap H1 locs1 → W p l e R s m args below meth c H1 locs1 cells slots Q (F0 m (pc + 3) ls (.int r :: rest))) : W p l e R s m args below meth c H locs cells slots Q (F0 m pc ls st) := by
  subst hst
  have hts := O.2.2.2.2.1
  refine va_calli (va_runV (As := As) (rest := rest) ⟨O.1, O.2.1, O.2.2.1, O.2.2.2.1, hts⟩ hM (ml.cw hts hR) ⟨Wd_blind, va_recv O.2.2.2.2.2.1 hH.2.1 hc (mw_get hi), fun U hU hW => ⟨rfl, hH.wd O hU hW⟩⟩ rfl hn hsz rfl (lv_room hrest) hdg hf) hH.2.2 (fun q _ h => h) (fun q h => h) (fun r1 u t H1 locs1 ht hvm hw hB hz1 hk1 hS => ?_)
  subst hw
  obtain ⟨b1, b2, -, -⟩ := hB
  rw [ht] at b1 b2
  exact kk H1 locs1 ⟨b1, b2, hS⟩
end LAWROW
def LC : Nat := 318
def LSl : Nat := 92873
set_option maxHeartbeats 4000000 in
theorem law_feed {G : va_G} {tA : Nat → ClassId} {E : Ex} {p : Program} {l : Launch} {e : Env} {s : State} {m : MethodId} {below : List Frame} {meth : Method} {c : Code} {b L : Nat} {xs : Nat → Int32} {Inv : Dm → Prop} (hL : L ≤ 4096) (O : Ok G tA s.heap.size E code "WordLearnerLaw" 4 p s m #[Value.ref b] c) (hX : va_X b L xs s s.heap) (hbl : b < s.heap.size) {n : Nat} (hn : n + 8 ≤ L) (hS : St_feed Inv) (hnext : ∀ D : Dm, Inv D → ∀ (H : Heap) (locs : List Loc) (ls : Array Slot), Hp G tA s.heap.size LAY D s.heap H locs → lv_has ls 4 [(0, .ref b), (1, .ref (s.heap.size + 0)), (2, .ref (s.heap.size + 281)), (3, .int (nI n))] → W p l e room_1 s m #[Value.ref b] below meth c H locs 318 92873 (lw_Z below #[Value.ref b] s) (F0 m 1136 ls [])) (D : Dm) (hI : Inv D) (H : Heap) (locs : List Loc) (ls : Array Slot) (hH : Hp G tA s.heap.size LAY D s.heap H locs) (hl : lv_has ls 4 [(0, .ref b), (1, .ref (s.heap.size + 0)), (2, .ref (s.heap.size + 281)), (3, .int (nI n))]) : W p l e room_1 s m #[Value.ref b] below meth c H locs 318 92873 (lw_Z below #[Value.ref b] s) (F0 m 176 ls []) := by
  obtain ⟨hx, hb, -, hown, hts, -⟩ := id O
  have hbA : ¬ (fun q : Nat => s.heap.size ≤ q) b := Nat.not_le.mpr hbl
  obtain ⟨r, D1, D2, hc1, hc2, hI⟩ := hS D hI (xs (nI n + 1).toNatClampNeg) (xs (nI n + 2).toNatClampNeg) (xs (nI n + 3).toNatClampNeg) (xs (nI n + 4).toNatClampNeg) (xs (nI n + 5).toNatClampNeg)
  refine lv_aload_n hx hb dL_law_176 rfl (lv_at hl 1 rfl) ?_
  refine lv_aload_n hx hb dL_law_177 rfl (lv_at hl 0 rfl) ?_
  refine lv_iload_n hx hb dL_law_178 rfl (lv_at hl 3 rfl) ?_
  refine lv_iconst (v := 1) hx hb dL_law_179 (by decide) ?_
  refine lv_iadd hx hb dL_law_180 ?_
  refine va_sld hx hb hX hbl hbA hH.2.2 (law_in hL (k := 1) rfl (by omega)) dL_law_181 ?_
  refine lv_aload_n hx hb dL_law_182 rfl (lv_at hl 0 rfl) ?_
  refine lv_iload_n hx hb dL_law_183 rfl (lv_at hl 3 rfl) ?_
  refine lv_iconst (v := 2) hx hb dL_law_184 (by decide) ?_
  refine lv_iadd hx hb dL_law_185 ?_
  refine va_sld hx hb hX hbl hbA hH.2.2 (law_in hL (k := 2) rfl (by omega)) dL_law_186 ?_
  refine lv_aload_n hx hb dL_law_187 rfl (lv_at hl 0 rfl) ?_
  refine lv_iload_n hx hb dL_law_188 rfl (lv_at hl 3 rfl) ?_
  refine lv_iconst (v := 3) hx hb dL_law_189 (by decide) ?_
  refine lv_iadd hx hb dL_law_190 ?_
  refine va_sld hx hb hX hbl hbA hH.2.2 (law_in hL (k := 3) rfl (by omega)) dL_law_191 ?_
  refine lv_aload_n hx hb dL_law_192 rfl (lv_at hl 0 rfl) ?_
  refine lv_iload_n hx hb dL_law_193 rfl (lv_at hl 3 rfl) ?_
  refine lv_iconst (v := 4) hx hb dL_law_194 (by decide) ?_
  refine lv_iadd hx hb dL_law_195 ?_
  refine va_sld hx hb hX hbl hbA hH.2.2 (law_in hL (k := 4) rfl (by omega)) dL_law_196 ?_
  refine lv_aload_n hx hb dL_law_197 rfl (lv_at hl 0 rfl) ?_
  refine lv_iload_n hx hb dL_law_198 rfl (lv_at hl 3 rfl) ?_
  refine lv_iconst (v := 5) hx hb dL_law_199 (by decide) ?_
  refine lv_iadd hx hb dL_law_200 ?_
  refine va_sld hx hb hX hbl hbA hH.2.2 (law_in hL (k := 5) rfl (by omega)) dL_law_201 ?_
  refine hl_call (As := [.int (xs (nI n + 1).toNatClampNeg), .int (xs (nI n + 2).toNatClampNeg), .int (xs (nI n + 3).toNatClampNeg), .int (xs (nI n + 4).toNatClampNeg), .int (xs (nI n + 5).toNatClampNeg)]) (rest := []) O hH (c_X11_feed hc1) ml_L_13 ly_0 rfl rfl hl.1 rfl ⟨(Nat.le_of_ble_eq_true rfl), (Nat.le_of_ble_eq_true rfl)⟩ (Nat.le_of_ble_eq_true rfl) ⟨(Nat.le_of_ble_eq_true rfl), (Nat.le_of_ble_eq_true rfl)⟩ dL_law_202 (fun H locs hH => ?_)
  refine lv_aload_n hx hb dL_law_205 rfl (lv_at hl 2 rfl) ?_
  refine lv_aload_n hx hb dL_law_206 rfl (lv_at hl 0 rfl) ?_
  refine lv_iload_n hx hb dL_law_207 rfl (lv_at hl 3 rfl) ?_
  refine lv_iconst (v := 1) hx hb dL_law_208 (by decide) ?_
  refine lv_iadd hx hb dL_law_209 ?_
  refine va_sld hx hb hX hbl hbA hH.2.2 (law_in hL (k := 1) rfl (by omega)) dL_law_210 ?_
  refine lv_aload_n hx hb dL_law_211 rfl (lv_at hl 0 rfl) ?_
  refine lv_iload_n hx hb dL_law_212 rfl (lv_at hl 3 rfl) ?_
  refine lv_iconst (v := 2) hx hb dL_law_213 (by decide) ?_
  refine lv_iadd hx hb dL_law_214 ?_
  refine va_sld hx hb hX hbl hbA hH.2.2 (law_in hL (k := 2) rfl (by omega)) dL_law_215 ?_
  refine lv_aload_n hx hb dL_law_216 rfl (lv_at hl 0 rfl) ?_
  refine lv_iload_n hx hb dL_law_217 rfl (lv_at hl 3 rfl) ?_
  refine lv_iconst (v := 3) hx hb dL_law_218 (by decide) ?_
  refine lv_iadd hx hb dL_law_219 ?_
  refine va_sld hx hb hX hbl hbA hH.2.2 (law_in hL (k := 3) rfl (by omega)) dL_law_220 ?_
  refine lv_aload_n hx hb dL_law_221 rfl (lv_at hl 0 rfl) ?_
  refine lv_iload_n hx hb dL_law_222 rfl (lv_at hl 3 rfl) ?_
  refine lv_iconst (v := 4) hx hb dL_law_223 (by decide) ?_
  refine lv_iadd hx hb dL_law_224 ?_
  refine va_sld hx hb hX hbl hbA hH.2.2 (law_in hL (k := 4) rfl (by omega)) dL_law_225 ?_
  refine lv_aload_n hx hb dL_law_226 rfl (lv_at hl 0 rfl) ?_
  refine lv_iload_n hx hb dL_law_227 rfl (lv_at hl 3 rfl) ?_
  refine lv_iconst (v := 5) hx hb dL_law_228 (by decide) ?_
  refine lv_iadd hx hb dL_law_229 ?_
  refine va_sld hx hb hX hbl hbA hH.2.2 (law_in hL (k := 5) rfl (by omega)) dL_law_230 ?_
  refine hl_call (As := [.int (xs (nI n + 1).toNatClampNeg), .int (xs (nI n + 2).toNatClampNeg), .int (xs (nI n + 3).toNatClampNeg), .int (xs (nI n + 4).toNatClampNeg), .int (xs (nI n + 5).toNatClampNeg)]) (rest := [.int r]) O hH (c_X12_feed hc2) ml_L_17 ly_281 rfl rfl hl.1 rfl ⟨(Nat.le_of_ble_eq_true rfl), (Nat.le_of_ble_eq_true rfl)⟩ (Nat.le_of_ble_eq_true rfl) ⟨(Nat.le_of_ble_eq_true rfl), (Nat.le_of_ble_eq_true rfl)⟩ dL_law_231 (fun H locs hH => ?_)
  refine lv_icmp_eq (tgt := 1136) hx hb dL_law_234 (by decide) (fun _ => ?_) (fun c1 => absurd rfl c1)
  exact hnext D2 hI _ _ _ hH hl
set_option maxHeartbeats 4000000 in
theorem law_machine {G : va_G} {tA : Nat → ClassId} {E : Ex} {p : Program} {l : Launch} {e : Env} {s : State} {m : MethodId} {below : List Frame} {meth : Method} {c : Code} {b L : Nat} {xs : Nat → Int32} {Inv : Dm → Prop} (hL : L ≤ 4096) (O : Ok G tA s.heap.size E code "WordLearnerLaw" 4 p s m #[Value.ref b] c) (hX : va_X b L xs s s.heap) (hbl : b < s.heap.size) {n : Nat} (hn : n + 8 ≤ L) (hS : St_machine Inv) (hnext : ∀ D : Dm, Inv D → ∀ (H : Heap) (locs : List Loc) (ls : Array Slot), Hp G tA s.heap.size LAY D s.heap H locs → lv_has ls 4 [(0, .ref b), (1, .ref (s.heap.size + 0)), (2, .ref (s.heap.size + 281)), (3, .int (nI n))] → W p l e room_1 s m #[Value.ref b] below meth c H locs 318 92873 (lw_Z below #[Value.ref b] s) (F0 m 1136 ls [])) (D : Dm) (hI : Inv D) (H : Heap) (locs : List Loc) (ls : Array Slot) (hH : Hp G tA s.heap.size LAY D s.heap H locs) (hl : lv_has ls 4 [(0, .ref b), (1, .ref (s.heap.size + 0)), (2, .ref (s.heap.size + 281)), (3, .int (nI n))]) : W p l e room_1 s m #[Value.ref b] below meth c H locs 318 92873 (lw_Z below #[Value.ref b] s) (F0 m 239 ls []) := by
  obtain ⟨hx, hb, -, hown, hts, -⟩ := id O
  have hbA : ¬ (fun q : Nat => s.heap.size ≤ q) b := Nat.not_le.mpr hbl
  obtain ⟨r, D1, D2, hc1, hc2, hI⟩ := hS D hI (xs (nI n + 1).toNatClampNeg) (xs (nI n + 2).toNatClampNeg)
  refine lv_aload_n hx hb dL_law_239 rfl (lv_at hl 1 rfl) ?_
  refine lv_aload_n hx hb dL_law_240 rfl (lv_at hl 0 rfl) ?_
  refine lv_iload_n hx hb dL_law_241 rfl (lv_at hl 3 rfl) ?_
  refine lv_iconst (v := 1) hx hb dL_law_242 (by decide) ?_
  refine lv_iadd hx hb dL_law_243 ?_
  refine va_sld hx hb hX hbl hbA hH.2.2 (law_in hL (k := 1) rfl (by omega)) dL_law_244 ?_
  refine lv_aload_n hx hb dL_law_245 rfl (lv_at hl 0 rfl) ?_
  refine lv_iload_n hx hb dL_law_246 rfl (lv_at hl 3 rfl) ?_
  refine lv_iconst (v := 2) hx hb dL_law_247 (by decide) ?_
  refine lv_iadd hx hb dL_law_248 ?_
  refine va_sld hx hb hX hbl hbA hH.2.2 (law_in hL (k := 2) rfl (by omega)) dL_law_249 ?_
  refine hl_call (As := [.int (xs (nI n + 1).toNatClampNeg), .int (xs (nI n + 2).toNatClampNeg)]) (rest := []) O hH (c_X11_machine hc1) ml_L_18 ly_0 rfl rfl hl.1 rfl ⟨(Nat.le_of_ble_eq_true rfl), (Nat.le_of_ble_eq_true rfl)⟩ (Nat.le_of_ble_eq_true rfl) ⟨(Nat.le_of_ble_eq_true rfl), (Nat.le_of_ble_eq_true rfl)⟩ dL_law_250 (fun H locs hH => ?_)
  refine lv_aload_n hx hb dL_law_253 rfl (lv_at hl 2 rfl) ?_
  refine lv_aload_n hx hb dL_law_254 rfl (lv_at hl 0 rfl) ?_
  refine lv_iload_n hx hb dL_law_255 rfl (lv_at hl 3 rfl) ?_
  refine lv_iconst (v := 1) hx hb dL_law_256 (by decide) ?_
  refine lv_iadd hx hb dL_law_257 ?_
  refine va_sld hx hb hX hbl hbA hH.2.2 (law_in hL (k := 1) rfl (by omega)) dL_law_258 ?_
  refine lv_aload_n hx hb dL_law_259 rfl (lv_at hl 0 rfl) ?_
  refine lv_iload_n hx hb dL_law_260 rfl (lv_at hl 3 rfl) ?_
  refine lv_iconst (v := 2) hx hb dL_law_261 (by decide) ?_
  refine lv_iadd hx hb dL_law_262 ?_
  refine va_sld hx hb hX hbl hbA hH.2.2 (law_in hL (k := 2) rfl (by omega)) dL_law_263 ?_
  refine hl_call (As := [.int (xs (nI n + 1).toNatClampNeg), .int (xs (nI n + 2).toNatClampNeg)]) (rest := [.int r]) O hH (c_X12_machine hc2) ml_L_22 ly_281 rfl rfl hl.1 rfl ⟨(Nat.le_of_ble_eq_true rfl), (Nat.le_of_ble_eq_true rfl)⟩ (Nat.le_of_ble_eq_true rfl) ⟨(Nat.le_of_ble_eq_true rfl), (Nat.le_of_ble_eq_true rfl)⟩ dL_law_264 (fun H locs hH => ?_)
  refine lv_icmp_eq (tgt := 1136) hx hb dL_law_267 (by decide) (fun _ => ?_) (fun c1 => absurd rfl c1)
  exact hnext D2 hI _ _ _ hH hl
set_option maxHeartbeats 4000000 in
theorem law_word {G : va_G} {tA : Nat → ClassId} {E : Ex} {p : Program} {l : Launch} {e : Env} {s : State} {m : MethodId} {below : List Frame} {meth : Method} {c : Code} {b L : Nat} {xs : Nat → Int32} {Inv : Dm → Prop} (hL : L ≤ 4096) (O : Ok G tA s.heap.size E code "WordLearnerLaw" 4 p s m #[Value.ref b] c) (hX : va_X b L xs s s.heap) (hbl : b < s.heap.size) {n : Nat} (hn : n + 8 ≤ L) (hS : St_word Inv) (hnext : ∀ D : Dm, Inv D → ∀ (H : Heap) (locs : List Loc) (ls : Array Slot), Hp G tA s.heap.size LAY D s.heap H locs → lv_has ls 4 [(0, .ref b), (1, .ref (s.heap.size + 0)), (2, .ref (s.heap.size + 281)), (3, .int (nI n))] → W p l e room_1 s m #[Value.ref b] below meth c H locs 318 92873 (lw_Z below #[Value.ref b] s) (F0 m 1136 ls [])) (D : Dm) (hI : Inv D) (H : Heap) (locs : List Loc) (ls : Array Slot) (hH : Hp G tA s.heap.size LAY D s.heap H locs) (hl : lv_has ls 4 [(0, .ref b), (1, .ref (s.heap.size + 0)), (2, .ref (s.heap.size + 281)), (3, .int (nI n))]) : W p l e room_1 s m #[Value.ref b] below meth c H locs 318 92873 (lw_Z below #[Value.ref b] s) (F0 m 272 ls []) := by
  obtain ⟨hx, hb, -, hown, hts, -⟩ := id O
  have hbA : ¬ (fun q : Nat => s.heap.size ≤ q) b := Nat.not_le.mpr hbl
  obtain ⟨r, D1, D2, hc1, hc2, hI⟩ := hS D hI (xs (nI n + 1).toNatClampNeg)
  refine lv_aload_n hx hb dL_law_272 rfl (lv_at hl 1 rfl) ?_
  refine lv_aload_n hx hb dL_law_273 rfl (lv_at hl 0 rfl) ?_
  refine lv_iload_n hx hb dL_law_274 rfl (lv_at hl 3 rfl) ?_
  refine lv_iconst (v := 1) hx hb dL_law_275 (by decide) ?_
  refine lv_iadd hx hb dL_law_276 ?_
  refine va_sld hx hb hX hbl hbA hH.2.2 (law_in hL (k := 1) rfl (by omega)) dL_law_277 ?_
  refine hl_call (As := [.int (xs (nI n + 1).toNatClampNeg)]) (rest := []) O hH (c_X11_word hc1) ml_L_23 ly_0 rfl rfl hl.1 rfl ⟨(Nat.le_of_ble_eq_true rfl), (Nat.le_of_ble_eq_true rfl)⟩ (Nat.le_of_ble_eq_true rfl) ⟨(Nat.le_of_ble_eq_true rfl), (Nat.le_of_ble_eq_true rfl)⟩ dL_law_278 (fun H locs hH => ?_)
  refine lv_aload_n hx hb dL_law_281 rfl (lv_at hl 2 rfl) ?_
  refine lv_aload_n hx hb dL_law_282 rfl (lv_at hl 0 rfl) ?_
  refine lv_iload_n hx hb dL_law_283 rfl (lv_at hl 3 rfl) ?_
  refine lv_iconst (v := 1) hx hb dL_law_284 (by decide) ?_
  refine lv_iadd hx hb dL_law_285 ?_
  refine va_sld hx hb hX hbl hbA hH.2.2 (law_in hL (k := 1) rfl (by omega)) dL_law_286 ?_
  refine hl_call (As := [.int (xs (nI n + 1).toNatClampNeg)]) (rest := [.int r]) O hH (c_X12_word hc2) ml_L_27 ly_281 rfl rfl hl.1 rfl ⟨(Nat.le_of_ble_eq_true rfl), (Nat.le_of_ble_eq_true rfl)⟩ (Nat.le_of_ble_eq_true rfl) ⟨(Nat.le_of_ble_eq_true rfl), (Nat.le_of_ble_eq_true rfl)⟩ dL_law_287 (fun H locs hH => ?_)
  refine lv_icmp_eq (tgt := 1136) hx hb dL_law_290 (by decide) (fun _ => ?_) (fun c1 => absurd rfl c1)
  exact hnext D2 hI _ _ _ hH hl
set_option maxHeartbeats 4000000 in
theorem law_fault {G : va_G} {tA : Nat → ClassId} {E : Ex} {p : Program} {l : Launch} {e : Env} {s : State} {m : MethodId} {below : List Frame} {meth : Method} {c : Code} {b L : Nat} {xs : Nat → Int32} {Inv : Dm → Prop} (hL : L ≤ 4096) (O : Ok G tA s.heap.size E code "WordLearnerLaw" 4 p s m #[Value.ref b] c) (hX : va_X b L xs s s.heap) (hbl : b < s.heap.size) {n : Nat} (hn : n + 8 ≤ L) (hS : St_fault Inv) (hnext : ∀ D : Dm, Inv D → ∀ (H : Heap) (locs : List Loc) (ls : Array Slot), Hp G tA s.heap.size LAY D s.heap H locs → lv_has ls 4 [(0, .ref b), (1, .ref (s.heap.size + 0)), (2, .ref (s.heap.size + 281)), (3, .int (nI n))] → W p l e room_1 s m #[Value.ref b] below meth c H locs 318 92873 (lw_Z below #[Value.ref b] s) (F0 m 1136 ls [])) (D : Dm) (hI : Inv D) (H : Heap) (locs : List Loc) (ls : Array Slot) (hH : Hp G tA s.heap.size LAY D s.heap H locs) (hl : lv_has ls 4 [(0, .ref b), (1, .ref (s.heap.size + 0)), (2, .ref (s.heap.size + 281)), (3, .int (nI n))]) : W p l e room_1 s m #[Value.ref b] below meth c H locs 318 92873 (lw_Z below #[Value.ref b] s) (F0 m 295 ls []) := by
  obtain ⟨hx, hb, -, hown, hts, -⟩ := id O
  have hbA : ¬ (fun q : Nat => s.heap.size ≤ q) b := Nat.not_le.mpr hbl
  obtain ⟨r, D1, D2, hc1, hc2, hI⟩ := hS D hI (xs (nI n + 1).toNatClampNeg)
  refine lv_aload_n hx hb dL_law_295 rfl (lv_at hl 1 rfl) ?_
  refine lv_aload_n hx hb dL_law_296 rfl (lv_at hl 0 rfl) ?_
  refine lv_iload_n hx hb dL_law_297 rfl (lv_at hl 3 rfl) ?_
  refine lv_iconst (v := 1) hx hb dL_law_298 (by decide) ?_
  refine lv_iadd hx hb dL_law_299 ?_
  refine va_sld hx hb hX hbl hbA hH.2.2 (law_in hL (k := 1) rfl (by omega)) dL_law_300 ?_
  refine hl_call (As := [.int (xs (nI n + 1).toNatClampNeg)]) (rest := []) O hH (c_X11_fault hc1) ml_L_28 ly_0 rfl rfl hl.1 rfl ⟨(Nat.le_of_ble_eq_true rfl), (Nat.le_of_ble_eq_true rfl)⟩ (Nat.le_of_ble_eq_true rfl) ⟨(Nat.le_of_ble_eq_true rfl), (Nat.le_of_ble_eq_true rfl)⟩ dL_law_301 (fun H locs hH => ?_)
  refine lv_aload_n hx hb dL_law_304 rfl (lv_at hl 2 rfl) ?_
  refine lv_aload_n hx hb dL_law_305 rfl (lv_at hl 0 rfl) ?_
  refine lv_iload_n hx hb dL_law_306 rfl (lv_at hl 3 rfl) ?_
  refine lv_iconst (v := 1) hx hb dL_law_307 (by decide) ?_
  refine lv_iadd hx hb dL_law_308 ?_
  refine va_sld hx hb hX hbl hbA hH.2.2 (law_in hL (k := 1) rfl (by omega)) dL_law_309 ?_
  refine hl_call (As := [.int (xs (nI n + 1).toNatClampNeg)]) (rest := [.int r]) O hH (c_X12_fault hc2) ml_L_31 ly_281 rfl rfl hl.1 rfl ⟨(Nat.le_of_ble_eq_true rfl), (Nat.le_of_ble_eq_true rfl)⟩ (Nat.le_of_ble_eq_true rfl) ⟨(Nat.le_of_ble_eq_true rfl), (Nat.le_of_ble_eq_true rfl)⟩ dL_law_310 (fun H locs hH => ?_)
  refine lv_icmp_eq (tgt := 1136) hx hb dL_law_313 (by decide) (fun _ => ?_) (fun c1 => absurd rfl c1)
  exact hnext D2 hI _ _ _ hH hl
set_option maxHeartbeats 4000000 in
theorem law_accept {G : va_G} {tA : Nat → ClassId} {E : Ex} {p : Program} {l : Launch} {e : Env} {s : State} {m : MethodId} {below : List Frame} {meth : Method} {c : Code} {b L : Nat} {xs : Nat → Int32} {Inv : Dm → Prop} (hL : L ≤ 4096) (O : Ok G tA s.heap.size E code "WordLearnerLaw" 4 p s m #[Value.ref b] c) (hX : va_X b L xs s s.heap) (hbl : b < s.heap.size) {n : Nat} (hn : n + 8 ≤ L) (hS : St_accept Inv) (hnext : ∀ D : Dm, Inv D → ∀ (H : Heap) (locs : List Loc) (ls : Array Slot), Hp G tA s.heap.size LAY D s.heap H locs → lv_has ls 4 [(0, .ref b), (1, .ref (s.heap.size + 0)), (2, .ref (s.heap.size + 281)), (3, .int (nI n))] → W p l e room_1 s m #[Value.ref b] below meth c H locs 318 92873 (lw_Z below #[Value.ref b] s) (F0 m 1136 ls [])) (D : Dm) (hI : Inv D) (H : Heap) (locs : List Loc) (ls : Array Slot) (hH : Hp G tA s.heap.size LAY D s.heap H locs) (hl : lv_has ls 4 [(0, .ref b), (1, .ref (s.heap.size + 0)), (2, .ref (s.heap.size + 281)), (3, .int (nI n))]) : W p l e room_1 s m #[Value.ref b] below meth c H locs 318 92873 (lw_Z below #[Value.ref b] s) (F0 m 318 ls []) := by
  obtain ⟨hx, hb, -, hown, hts, -⟩ := id O
  have hbA : ¬ (fun q : Nat => s.heap.size ≤ q) b := Nat.not_le.mpr hbl
  obtain ⟨r, D1, D2, hc1, hc2, hI⟩ := hS D hI (xs (nI n + 1).toNatClampNeg) (xs (nI n + 2).toNatClampNeg) (xs (nI n + 3).toNatClampNeg)
  refine lv_aload_n hx hb dL_law_318 rfl (lv_at hl 1 rfl) ?_
  refine lv_aload_n hx hb dL_law_319 rfl (lv_at hl 0 rfl) ?_
  refine lv_iload_n hx hb dL_law_320 rfl (lv_at hl 3 rfl) ?_
  refine lv_iconst (v := 1) hx hb dL_law_321 (by decide) ?_
  refine lv_iadd hx hb dL_law_322 ?_
  refine va_sld hx hb hX hbl hbA hH.2.2 (law_in hL (k := 1) rfl (by omega)) dL_law_323 ?_
  refine lv_aload_n hx hb dL_law_324 rfl (lv_at hl 0 rfl) ?_
  refine lv_iload_n hx hb dL_law_325 rfl (lv_at hl 3 rfl) ?_
  refine lv_iconst (v := 2) hx hb dL_law_326 (by decide) ?_
  refine lv_iadd hx hb dL_law_327 ?_
  refine va_sld hx hb hX hbl hbA hH.2.2 (law_in hL (k := 2) rfl (by omega)) dL_law_328 ?_
  refine lv_aload_n hx hb dL_law_329 rfl (lv_at hl 0 rfl) ?_
  refine lv_iload_n hx hb dL_law_330 rfl (lv_at hl 3 rfl) ?_
  refine lv_iconst (v := 3) hx hb dL_law_331 (by decide) ?_
  refine lv_iadd hx hb dL_law_332 ?_
  refine va_sld hx hb hX hbl hbA hH.2.2 (law_in hL (k := 3) rfl (by omega)) dL_law_333 ?_
  refine hl_call (As := [.int (xs (nI n + 1).toNatClampNeg), .int (xs (nI n + 2).toNatClampNeg), .int (xs (nI n + 3).toNatClampNeg)]) (rest := []) O hH (c_X11_accept hc1) ml_L_32 ly_0 rfl rfl hl.1 rfl ⟨(Nat.le_of_ble_eq_true rfl), (Nat.le_of_ble_eq_true rfl)⟩ (Nat.le_of_ble_eq_true rfl) ⟨(Nat.le_of_ble_eq_true rfl), (Nat.le_of_ble_eq_true rfl)⟩ dL_law_334 (fun H locs hH => ?_)
  refine lv_aload_n hx hb dL_law_337 rfl (lv_at hl 2 rfl) ?_
  refine lv_aload_n hx hb dL_law_338 rfl (lv_at hl 0 rfl) ?_
  refine lv_iload_n hx hb dL_law_339 rfl (lv_at hl 3 rfl) ?_
  refine lv_iconst (v := 1) hx hb dL_law_340 (by decide) ?_
  refine lv_iadd hx hb dL_law_341 ?_
  refine va_sld hx hb hX hbl hbA hH.2.2 (law_in hL (k := 1) rfl (by omega)) dL_law_342 ?_
  refine lv_aload_n hx hb dL_law_343 rfl (lv_at hl 0 rfl) ?_
  refine lv_iload_n hx hb dL_law_344 rfl (lv_at hl 3 rfl) ?_
  refine lv_iconst (v := 2) hx hb dL_law_345 (by decide) ?_
  refine lv_iadd hx hb dL_law_346 ?_
  refine va_sld hx hb hX hbl hbA hH.2.2 (law_in hL (k := 2) rfl (by omega)) dL_law_347 ?_
  refine lv_aload_n hx hb dL_law_348 rfl (lv_at hl 0 rfl) ?_
  refine lv_iload_n hx hb dL_law_349 rfl (lv_at hl 3 rfl) ?_
  refine lv_iconst (v := 3) hx hb dL_law_350 (by decide) ?_
  refine lv_iadd hx hb dL_law_351 ?_
  refine va_sld hx hb hX hbl hbA hH.2.2 (law_in hL (k := 3) rfl (by omega)) dL_law_352 ?_
  refine hl_call (As := [.int (xs (nI n + 1).toNatClampNeg), .int (xs (nI n + 2).toNatClampNeg), .int (xs (nI n + 3).toNatClampNeg)]) (rest := [.int r]) O hH (c_X12_accept hc2) ml_L_36 ly_281 rfl rfl hl.1 rfl ⟨(Nat.le_of_ble_eq_true rfl), (Nat.le_of_ble_eq_true rfl)⟩ (Nat.le_of_ble_eq_true rfl) ⟨(Nat.le_of_ble_eq_true rfl), (Nat.le_of_ble_eq_true rfl)⟩ dL_law_353 (fun H locs hH => ?_)
  refine lv_icmp_eq (tgt := 1136) hx hb dL_law_356 (by decide) (fun _ => ?_) (fun c1 => absurd rfl c1)
  exact hnext D2 hI _ _ _ hH hl
set_option maxHeartbeats 4000000 in
theorem law_move {G : va_G} {tA : Nat → ClassId} {E : Ex} {p : Program} {l : Launch} {e : Env} {s : State} {m : MethodId} {below : List Frame} {meth : Method} {c : Code} {b L : Nat} {xs : Nat → Int32} {Inv : Dm → Prop} (hL : L ≤ 4096) (O : Ok G tA s.heap.size E code "WordLearnerLaw" 4 p s m #[Value.ref b] c) (hX : va_X b L xs s s.heap) (hbl : b < s.heap.size) {n : Nat} (hn : n + 8 ≤ L) (hS : St_move Inv) (hnext : ∀ D : Dm, Inv D → ∀ (H : Heap) (locs : List Loc) (ls : Array Slot), Hp G tA s.heap.size LAY D s.heap H locs → lv_has ls 4 [(0, .ref b), (1, .ref (s.heap.size + 0)), (2, .ref (s.heap.size + 281)), (3, .int (nI n))] → W p l e room_1 s m #[Value.ref b] below meth c H locs 318 92873 (lw_Z below #[Value.ref b] s) (F0 m 1136 ls [])) (D : Dm) (hI : Inv D) (H : Heap) (locs : List Loc) (ls : Array Slot) (hH : Hp G tA s.heap.size LAY D s.heap H locs) (hl : lv_has ls 4 [(0, .ref b), (1, .ref (s.heap.size + 0)), (2, .ref (s.heap.size + 281)), (3, .int (nI n))]) : W p l e room_1 s m #[Value.ref b] below meth c H locs 318 92873 (lw_Z below #[Value.ref b] s) (F0 m 361 ls []) := by
  obtain ⟨hx, hb, -, hown, hts, -⟩ := id O
  have hbA : ¬ (fun q : Nat => s.heap.size ≤ q) b := Nat.not_le.mpr hbl
  obtain ⟨r, D1, D2, hc1, hc2, hI⟩ := hS D hI (xs (nI n + 1).toNatClampNeg) (xs (nI n + 2).toNatClampNeg) (xs (nI n + 3).toNatClampNeg) (xs (nI n + 4).toNatClampNeg) (xs (nI n + 5).toNatClampNeg) (xs (nI n + 6).toNatClampNeg) (xs (nI n + 7).toNatClampNeg)
  refine lv_aload_n hx hb dL_law_361 rfl (lv_at hl 1 rfl) ?_
  refine lv_aload_n hx hb dL_law_362 rfl (lv_at hl 0 rfl) ?_
  refine lv_iload_n hx hb dL_law_363 rfl (lv_at hl 3 rfl) ?_
  refine lv_iconst (v := 1) hx hb dL_law_364 (by decide) ?_
  refine lv_iadd hx hb dL_law_365 ?_
  refine va_sld hx hb hX hbl hbA hH.2.2 (law_in hL (k := 1) rfl (by omega)) dL_law_366 ?_
  refine lv_aload_n hx hb dL_law_367 rfl (lv_at hl 0 rfl) ?_
  refine lv_iload_n hx hb dL_law_368 rfl (lv_at hl 3 rfl) ?_
  refine lv_iconst (v := 2) hx hb dL_law_369 (by decide) ?_
  refine lv_iadd hx hb dL_law_370 ?_
  refine va_sld hx hb hX hbl hbA hH.2.2 (law_in hL (k := 2) rfl (by omega)) dL_law_371 ?_
  refine lv_aload_n hx hb dL_law_372 rfl (lv_at hl 0 rfl) ?_
  refine lv_iload_n hx hb dL_law_373 rfl (lv_at hl 3 rfl) ?_
  refine lv_iconst (v := 3) hx hb dL_law_374 (by decide) ?_
  refine lv_iadd hx hb dL_law_375 ?_
  refine va_sld hx hb hX hbl hbA hH.2.2 (law_in hL (k := 3) rfl (by omega)) dL_law_376 ?_
  refine lv_aload_n hx hb dL_law_377 rfl (lv_at hl 0 rfl) ?_
  refine lv_iload_n hx hb dL_law_378 rfl (lv_at hl 3 rfl) ?_
  refine lv_iconst (v := 4) hx hb dL_law_379 (by decide) ?_
  refine lv_iadd hx hb dL_law_380 ?_
  refine va_sld hx hb hX hbl hbA hH.2.2 (law_in hL (k := 4) rfl (by omega)) dL_law_381 ?_
  refine lv_aload_n hx hb dL_law_382 rfl (lv_at hl 0 rfl) ?_
  refine lv_iload_n hx hb dL_law_383 rfl (lv_at hl 3 rfl) ?_
  refine lv_iconst (v := 5) hx hb dL_law_384 (by decide) ?_
  refine lv_iadd hx hb dL_law_385 ?_
  refine va_sld hx hb hX hbl hbA hH.2.2 (law_in hL (k := 5) rfl (by omega)) dL_law_386 ?_
  refine lv_aload_n hx hb dL_law_387 rfl (lv_at hl 0 rfl) ?_
  refine lv_iload_n hx hb dL_law_388 rfl (lv_at hl 3 rfl) ?_
  refine lv_bipush (v := 6) hx hb dL_law_389 (by decide) ?_
  refine lv_iadd hx hb dL_law_391 ?_
  refine va_sld hx hb hX hbl hbA hH.2.2 (law_in hL (k := 6) rfl (by omega)) dL_law_392 ?_
  refine lv_aload_n hx hb dL_law_393 rfl (lv_at hl 0 rfl) ?_
  refine lv_iload_n hx hb dL_law_394 rfl (lv_at hl 3 rfl) ?_
  refine lv_bipush (v := 7) hx hb dL_law_395 (by decide) ?_
  refine lv_iadd hx hb dL_law_397 ?_
  refine va_sld hx hb hX hbl hbA hH.2.2 (law_in hL (k := 7) rfl (by omega)) dL_law_398 ?_
  refine hl_call (As := [.int (xs (nI n + 1).toNatClampNeg), .int (xs (nI n + 2).toNatClampNeg), .int (xs (nI n + 3).toNatClampNeg), .int (xs (nI n + 4).toNatClampNeg), .int (xs (nI n + 5).toNatClampNeg), .int (xs (nI n + 6).toNatClampNeg), .int (xs (nI n + 7).toNatClampNeg)]) (rest := []) O hH (c_X11_move hc1) ml_L_37 ly_0 rfl rfl hl.1 rfl ⟨(Nat.le_of_ble_eq_true rfl), (Nat.le_of_ble_eq_true rfl)⟩ (Nat.le_of_ble_eq_true rfl) ⟨(Nat.le_of_ble_eq_true rfl), (Nat.le_of_ble_eq_true rfl)⟩ dL_law_399 (fun H locs hH => ?_)
  refine lv_aload_n hx hb dL_law_402 rfl (lv_at hl 2 rfl) ?_
  refine lv_aload_n hx hb dL_law_403 rfl (lv_at hl 0 rfl) ?_
  refine lv_iload_n hx hb dL_law_404 rfl (lv_at hl 3 rfl) ?_
  refine lv_iconst (v := 1) hx hb dL_law_405 (by decide) ?_
  refine lv_iadd hx hb dL_law_406 ?_
  refine va_sld hx hb hX hbl hbA hH.2.2 (law_in hL (k := 1) rfl (by omega)) dL_law_407 ?_
  refine lv_aload_n hx hb dL_law_408 rfl (lv_at hl 0 rfl) ?_
  refine lv_iload_n hx hb dL_law_409 rfl (lv_at hl 3 rfl) ?_
  refine lv_iconst (v := 2) hx hb dL_law_410 (by decide) ?_
  refine lv_iadd hx hb dL_law_411 ?_
  refine va_sld hx hb hX hbl hbA hH.2.2 (law_in hL (k := 2) rfl (by omega)) dL_law_412 ?_
  refine lv_aload_n hx hb dL_law_413 rfl (lv_at hl 0 rfl) ?_
  refine lv_iload_n hx hb dL_law_414 rfl (lv_at hl 3 rfl) ?_
  refine lv_iconst (v := 3) hx hb dL_law_415 (by decide) ?_
  refine lv_iadd hx hb dL_law_416 ?_
  refine va_sld hx hb hX hbl hbA hH.2.2 (law_in hL (k := 3) rfl (by omega)) dL_law_417 ?_
  refine lv_aload_n hx hb dL_law_418 rfl (lv_at hl 0 rfl) ?_
  refine lv_iload_n hx hb dL_law_419 rfl (lv_at hl 3 rfl) ?_
  refine lv_iconst (v := 4) hx hb dL_law_420 (by decide) ?_
  refine lv_iadd hx hb dL_law_421 ?_
  refine va_sld hx hb hX hbl hbA hH.2.2 (law_in hL (k := 4) rfl (by omega)) dL_law_422 ?_
  refine lv_aload_n hx hb dL_law_423 rfl (lv_at hl 0 rfl) ?_
  refine lv_iload_n hx hb dL_law_424 rfl (lv_at hl 3 rfl) ?_
  refine lv_iconst (v := 5) hx hb dL_law_425 (by decide) ?_
  refine lv_iadd hx hb dL_law_426 ?_
  refine va_sld hx hb hX hbl hbA hH.2.2 (law_in hL (k := 5) rfl (by omega)) dL_law_427 ?_
  refine lv_aload_n hx hb dL_law_428 rfl (lv_at hl 0 rfl) ?_
  refine lv_iload_n hx hb dL_law_429 rfl (lv_at hl 3 rfl) ?_
  refine lv_bipush (v := 6) hx hb dL_law_430 (by decide) ?_
  refine lv_iadd hx hb dL_law_432 ?_
  refine va_sld hx hb hX hbl hbA hH.2.2 (law_in hL (k := 6) rfl (by omega)) dL_law_433 ?_
  refine lv_aload_n hx hb dL_law_434 rfl (lv_at hl 0 rfl) ?_
  refine lv_iload_n hx hb dL_law_435 rfl (lv_at hl 3 rfl) ?_
  refine lv_bipush (v := 7) hx hb dL_law_436 (by decide) ?_
  refine lv_iadd hx hb dL_law_438 ?_
  refine va_sld hx hb hX hbl hbA hH.2.2 (law_in hL (k := 7) rfl (by omega)) dL_law_439 ?_
  refine hl_call (As := [.int (xs (nI n + 1).toNatClampNeg), .int (xs (nI n + 2).toNatClampNeg), .int (xs (nI n + 3).toNatClampNeg), .int (xs (nI n + 4).toNatClampNeg), .int (xs (nI n + 5).toNatClampNeg), .int (xs (nI n + 6).toNatClampNeg), .int (xs (nI n + 7).toNatClampNeg)]) (rest := [.int r]) O hH (c_X12_move hc2) ml_L_41 ly_281 rfl rfl hl.1 rfl ⟨(Nat.le_of_ble_eq_true rfl), (Nat.le_of_ble_eq_true rfl)⟩ (Nat.le_of_ble_eq_true rfl) ⟨(Nat.le_of_ble_eq_true rfl), (Nat.le_of_ble_eq_true rfl)⟩ dL_law_440 (fun H locs hH => ?_)
  refine lv_icmp_eq (tgt := 1136) hx hb dL_law_443 (by decide) (fun _ => ?_) (fun c1 => absurd rfl c1)
  exact hnext D2 hI _ _ _ hH hl
set_option maxHeartbeats 4000000 in
theorem law_of {G : va_G} {tA : Nat → ClassId} {E : Ex} {p : Program} {l : Launch} {e : Env} {s : State} {m : MethodId} {below : List Frame} {meth : Method} {c : Code} {b L : Nat} {xs : Nat → Int32} {Inv : Dm → Prop} (hL : L ≤ 4096) (O : Ok G tA s.heap.size E code "WordLearnerLaw" 4 p s m #[Value.ref b] c) (hX : va_X b L xs s s.heap) (hbl : b < s.heap.size) {n : Nat} (hn : n + 8 ≤ L) (hS : St_of Inv) (hnext : ∀ D : Dm, Inv D → ∀ (H : Heap) (locs : List Loc) (ls : Array Slot), Hp G tA s.heap.size LAY D s.heap H locs → lv_has ls 4 [(0, .ref b), (1, .ref (s.heap.size + 0)), (2, .ref (s.heap.size + 281)), (3, .int (nI n))] → W p l e room_1 s m #[Value.ref b] below meth c H locs 318 92873 (lw_Z below #[Value.ref b] s) (F0 m 1136 ls [])) (D : Dm) (hI : Inv D) (H : Heap) (locs : List Loc) (ls : Array Slot) (hH : Hp G tA s.heap.size LAY D s.heap H locs) (hl : lv_has ls 4 [(0, .ref b), (1, .ref (s.heap.size + 0)), (2, .ref (s.heap.size + 281)), (3, .int (nI n))]) : W p l e room_1 s m #[Value.ref b] below meth c H locs 318 92873 (lw_Z below #[Value.ref b] s) (F0 m 448 ls []) := by
  obtain ⟨hx, hb, -, hown, hts, -⟩ := id O
  have hbA : ¬ (fun q : Nat => s.heap.size ≤ q) b := Nat.not_le.mpr hbl
  obtain ⟨r, D1, D2, hc1, hc2, hI⟩ := hS D hI (xs (nI n + 1).toNatClampNeg) (xs (nI n + 2).toNatClampNeg)
  refine lv_aload_n hx hb dL_law_448 rfl (lv_at hl 1 rfl) ?_
  refine lv_aload_n hx hb dL_law_449 rfl (lv_at hl 0 rfl) ?_
  refine lv_iload_n hx hb dL_law_450 rfl (lv_at hl 3 rfl) ?_
  refine lv_iconst (v := 1) hx hb dL_law_451 (by decide) ?_
  refine lv_iadd hx hb dL_law_452 ?_
  refine va_sld hx hb hX hbl hbA hH.2.2 (law_in hL (k := 1) rfl (by omega)) dL_law_453 ?_
  refine lv_aload_n hx hb dL_law_454 rfl (lv_at hl 0 rfl) ?_
  refine lv_iload_n hx hb dL_law_455 rfl (lv_at hl 3 rfl) ?_
  refine lv_iconst (v := 2) hx hb dL_law_456 (by decide) ?_
  refine lv_iadd hx hb dL_law_457 ?_
  refine va_sld hx hb hX hbl hbA hH.2.2 (law_in hL (k := 2) rfl (by omega)) dL_law_458 ?_
  refine hl_call (As := [.int (xs (nI n + 1).toNatClampNeg), .int (xs (nI n + 2).toNatClampNeg)]) (rest := []) O hH (c_X11_of hc1) ml_L_42 ly_0 rfl rfl hl.1 rfl ⟨(Nat.le_of_ble_eq_true rfl), (Nat.le_of_ble_eq_true rfl)⟩ (Nat.le_of_ble_eq_true rfl) ⟨(Nat.le_of_ble_eq_true rfl), (Nat.le_of_ble_eq_true rfl)⟩ dL_law_459 (fun H locs hH => ?_)
  refine lv_aload_n hx hb dL_law_462 rfl (lv_at hl 2 rfl) ?_
  refine lv_aload_n hx hb dL_law_463 rfl (lv_at hl 0 rfl) ?_
  refine lv_iload_n hx hb dL_law_464 rfl (lv_at hl 3 rfl) ?_
  refine lv_iconst (v := 1) hx hb dL_law_465 (by decide) ?_
  refine lv_iadd hx hb dL_law_466 ?_
  refine va_sld hx hb hX hbl hbA hH.2.2 (law_in hL (k := 1) rfl (by omega)) dL_law_467 ?_
  refine lv_aload_n hx hb dL_law_468 rfl (lv_at hl 0 rfl) ?_
  refine lv_iload_n hx hb dL_law_469 rfl (lv_at hl 3 rfl) ?_
  refine lv_iconst (v := 2) hx hb dL_law_470 (by decide) ?_
  refine lv_iadd hx hb dL_law_471 ?_
  refine va_sld hx hb hX hbl hbA hH.2.2 (law_in hL (k := 2) rfl (by omega)) dL_law_472 ?_
  refine hl_call (As := [.int (xs (nI n + 1).toNatClampNeg), .int (xs (nI n + 2).toNatClampNeg)]) (rest := [.int r]) O hH (c_X12_of hc2) ml_L_45 ly_281 rfl rfl hl.1 rfl ⟨(Nat.le_of_ble_eq_true rfl), (Nat.le_of_ble_eq_true rfl)⟩ (Nat.le_of_ble_eq_true rfl) ⟨(Nat.le_of_ble_eq_true rfl), (Nat.le_of_ble_eq_true rfl)⟩ dL_law_473 (fun H locs hH => ?_)
  refine lv_icmp_eq (tgt := 1136) hx hb dL_law_476 (by decide) (fun _ => ?_) (fun c1 => absurd rfl c1)
  exact hnext D2 hI _ _ _ hH hl
set_option maxHeartbeats 4000000 in
theorem law_moved {G : va_G} {tA : Nat → ClassId} {E : Ex} {p : Program} {l : Launch} {e : Env} {s : State} {m : MethodId} {below : List Frame} {meth : Method} {c : Code} {b L : Nat} {xs : Nat → Int32} {Inv : Dm → Prop} (hL : L ≤ 4096) (O : Ok G tA s.heap.size E code "WordLearnerLaw" 4 p s m #[Value.ref b] c) (hX : va_X b L xs s s.heap) (hbl : b < s.heap.size) {n : Nat} (hn : n + 8 ≤ L) (hS : St_moved Inv) (hnext : ∀ D : Dm, Inv D → ∀ (H : Heap) (locs : List Loc) (ls : Array Slot), Hp G tA s.heap.size LAY D s.heap H locs → lv_has ls 4 [(0, .ref b), (1, .ref (s.heap.size + 0)), (2, .ref (s.heap.size + 281)), (3, .int (nI n))] → W p l e room_1 s m #[Value.ref b] below meth c H locs 318 92873 (lw_Z below #[Value.ref b] s) (F0 m 1136 ls [])) (D : Dm) (hI : Inv D) (H : Heap) (locs : List Loc) (ls : Array Slot) (hH : Hp G tA s.heap.size LAY D s.heap H locs) (hl : lv_has ls 4 [(0, .ref b), (1, .ref (s.heap.size + 0)), (2, .ref (s.heap.size + 281)), (3, .int (nI n))]) : W p l e room_1 s m #[Value.ref b] below meth c H locs 318 92873 (lw_Z below #[Value.ref b] s) (F0 m 481 ls []) := by
  obtain ⟨hx, hb, -, hown, hts, -⟩ := id O
  have hbA : ¬ (fun q : Nat => s.heap.size ≤ q) b := Nat.not_le.mpr hbl
  obtain ⟨r, D1, D2, hc1, hc2, hI⟩ := hS D hI (xs (nI n + 1).toNatClampNeg) (xs (nI n + 2).toNatClampNeg) (xs (nI n + 3).toNatClampNeg) (xs (nI n + 4).toNatClampNeg) (xs (nI n + 5).toNatClampNeg)
  refine lv_aload_n hx hb dL_law_481 rfl (lv_at hl 1 rfl) ?_
  refine lv_aload_n hx hb dL_law_482 rfl (lv_at hl 0 rfl) ?_
  refine lv_iload_n hx hb dL_law_483 rfl (lv_at hl 3 rfl) ?_
  refine lv_iconst (v := 1) hx hb dL_law_484 (by decide) ?_
  refine lv_iadd hx hb dL_law_485 ?_
  refine va_sld hx hb hX hbl hbA hH.2.2 (law_in hL (k := 1) rfl (by omega)) dL_law_486 ?_
  refine lv_aload_n hx hb dL_law_487 rfl (lv_at hl 0 rfl) ?_
  refine lv_iload_n hx hb dL_law_488 rfl (lv_at hl 3 rfl) ?_
  refine lv_iconst (v := 2) hx hb dL_law_489 (by decide) ?_
  refine lv_iadd hx hb dL_law_490 ?_
  refine va_sld hx hb hX hbl hbA hH.2.2 (law_in hL (k := 2) rfl (by omega)) dL_law_491 ?_
  refine lv_aload_n hx hb dL_law_492 rfl (lv_at hl 0 rfl) ?_
  refine lv_iload_n hx hb dL_law_493 rfl (lv_at hl 3 rfl) ?_
  refine lv_iconst (v := 3) hx hb dL_law_494 (by decide) ?_
  refine lv_iadd hx hb dL_law_495 ?_
  refine va_sld hx hb hX hbl hbA hH.2.2 (law_in hL (k := 3) rfl (by omega)) dL_law_496 ?_
  refine lv_aload_n hx hb dL_law_497 rfl (lv_at hl 0 rfl) ?_
  refine lv_iload_n hx hb dL_law_498 rfl (lv_at hl 3 rfl) ?_
  refine lv_iconst (v := 4) hx hb dL_law_499 (by decide) ?_
  refine lv_iadd hx hb dL_law_500 ?_
  refine va_sld hx hb hX hbl hbA hH.2.2 (law_in hL (k := 4) rfl (by omega)) dL_law_501 ?_
  refine lv_aload_n hx hb dL_law_502 rfl (lv_at hl 0 rfl) ?_
  refine lv_iload_n hx hb dL_law_503 rfl (lv_at hl 3 rfl) ?_
  refine lv_iconst (v := 5) hx hb dL_law_504 (by decide) ?_
  refine lv_iadd hx hb dL_law_505 ?_
  refine va_sld hx hb hX hbl hbA hH.2.2 (law_in hL (k := 5) rfl (by omega)) dL_law_506 ?_
  refine hl_call (As := [.int (xs (nI n + 1).toNatClampNeg), .int (xs (nI n + 2).toNatClampNeg), .int (xs (nI n + 3).toNatClampNeg), .int (xs (nI n + 4).toNatClampNeg), .int (xs (nI n + 5).toNatClampNeg)]) (rest := []) O hH (c_X11_moved hc1) ml_L_46 ly_0 rfl rfl hl.1 rfl ⟨(Nat.le_of_ble_eq_true rfl), (Nat.le_of_ble_eq_true rfl)⟩ (Nat.le_of_ble_eq_true rfl) ⟨(Nat.le_of_ble_eq_true rfl), (Nat.le_of_ble_eq_true rfl)⟩ dL_law_507 (fun H locs hH => ?_)
  refine lv_aload_n hx hb dL_law_510 rfl (lv_at hl 2 rfl) ?_
  refine lv_aload_n hx hb dL_law_511 rfl (lv_at hl 0 rfl) ?_
  refine lv_iload_n hx hb dL_law_512 rfl (lv_at hl 3 rfl) ?_
  refine lv_iconst (v := 1) hx hb dL_law_513 (by decide) ?_
  refine lv_iadd hx hb dL_law_514 ?_
  refine va_sld hx hb hX hbl hbA hH.2.2 (law_in hL (k := 1) rfl (by omega)) dL_law_515 ?_
  refine lv_aload_n hx hb dL_law_516 rfl (lv_at hl 0 rfl) ?_
  refine lv_iload_n hx hb dL_law_517 rfl (lv_at hl 3 rfl) ?_
  refine lv_iconst (v := 2) hx hb dL_law_518 (by decide) ?_
  refine lv_iadd hx hb dL_law_519 ?_
  refine va_sld hx hb hX hbl hbA hH.2.2 (law_in hL (k := 2) rfl (by omega)) dL_law_520 ?_
  refine lv_aload_n hx hb dL_law_521 rfl (lv_at hl 0 rfl) ?_
  refine lv_iload_n hx hb dL_law_522 rfl (lv_at hl 3 rfl) ?_
  refine lv_iconst (v := 3) hx hb dL_law_523 (by decide) ?_
  refine lv_iadd hx hb dL_law_524 ?_
  refine va_sld hx hb hX hbl hbA hH.2.2 (law_in hL (k := 3) rfl (by omega)) dL_law_525 ?_
  refine lv_aload_n hx hb dL_law_526 rfl (lv_at hl 0 rfl) ?_
  refine lv_iload_n hx hb dL_law_527 rfl (lv_at hl 3 rfl) ?_
  refine lv_iconst (v := 4) hx hb dL_law_528 (by decide) ?_
  refine lv_iadd hx hb dL_law_529 ?_
  refine va_sld hx hb hX hbl hbA hH.2.2 (law_in hL (k := 4) rfl (by omega)) dL_law_530 ?_
  refine lv_aload_n hx hb dL_law_531 rfl (lv_at hl 0 rfl) ?_
  refine lv_iload_n hx hb dL_law_532 rfl (lv_at hl 3 rfl) ?_
  refine lv_iconst (v := 5) hx hb dL_law_533 (by decide) ?_
  refine lv_iadd hx hb dL_law_534 ?_
  refine va_sld hx hb hX hbl hbA hH.2.2 (law_in hL (k := 5) rfl (by omega)) dL_law_535 ?_
  refine hl_call (As := [.int (xs (nI n + 1).toNatClampNeg), .int (xs (nI n + 2).toNatClampNeg), .int (xs (nI n + 3).toNatClampNeg), .int (xs (nI n + 4).toNatClampNeg), .int (xs (nI n + 5).toNatClampNeg)]) (rest := [.int r]) O hH (c_X12_moved hc2) ml_L_49 ly_281 rfl rfl hl.1 rfl ⟨(Nat.le_of_ble_eq_true rfl), (Nat.le_of_ble_eq_true rfl)⟩ (Nat.le_of_ble_eq_true rfl) ⟨(Nat.le_of_ble_eq_true rfl), (Nat.le_of_ble_eq_true rfl)⟩ dL_law_536 (fun H locs hH => ?_)
  refine lv_icmp_eq (tgt := 1136) hx hb dL_law_539 (by decide) (fun _ => ?_) (fun c1 => absurd rfl c1)
  exact hnext D2 hI _ _ _ hH hl
set_option maxHeartbeats 4000000 in
theorem law_ask {G : va_G} {tA : Nat → ClassId} {E : Ex} {p : Program} {l : Launch} {e : Env} {s : State} {m : MethodId} {below : List Frame} {meth : Method} {c : Code} {b L : Nat} {xs : Nat → Int32} {Inv : Dm → Prop} (hL : L ≤ 4096) (O : Ok G tA s.heap.size E code "WordLearnerLaw" 4 p s m #[Value.ref b] c) (hX : va_X b L xs s s.heap) (hbl : b < s.heap.size) {n : Nat} (hn : n + 8 ≤ L) (hS : St_ask Inv) (hnext : ∀ D : Dm, Inv D → ∀ (H : Heap) (locs : List Loc) (ls : Array Slot), Hp G tA s.heap.size LAY D s.heap H locs → lv_has ls 4 [(0, .ref b), (1, .ref (s.heap.size + 0)), (2, .ref (s.heap.size + 281)), (3, .int (nI n))] → W p l e room_1 s m #[Value.ref b] below meth c H locs 318 92873 (lw_Z below #[Value.ref b] s) (F0 m 1136 ls [])) (D : Dm) (hI : Inv D) (H : Heap) (locs : List Loc) (ls : Array Slot) (hH : Hp G tA s.heap.size LAY D s.heap H locs) (hl : lv_has ls 4 [(0, .ref b), (1, .ref (s.heap.size + 0)), (2, .ref (s.heap.size + 281)), (3, .int (nI n))]) : W p l e room_1 s m #[Value.ref b] below meth c H locs 318 92873 (lw_Z below #[Value.ref b] s) (F0 m 544 ls []) := by
  obtain ⟨hx, hb, -, hown, hts, -⟩ := id O
  have hbA : ¬ (fun q : Nat => s.heap.size ≤ q) b := Nat.not_le.mpr hbl
  obtain ⟨r, D1, D2, hc1, hc2, hI⟩ := hS D hI (xs (nI n + 1).toNatClampNeg)
  refine lv_aload_n hx hb dL_law_544 rfl (lv_at hl 1 rfl) ?_
  refine lv_aload_n hx hb dL_law_545 rfl (lv_at hl 0 rfl) ?_
  refine lv_iload_n hx hb dL_law_546 rfl (lv_at hl 3 rfl) ?_
  refine lv_iconst (v := 1) hx hb dL_law_547 (by decide) ?_
  refine lv_iadd hx hb dL_law_548 ?_
  refine va_sld hx hb hX hbl hbA hH.2.2 (law_in hL (k := 1) rfl (by omega)) dL_law_549 ?_
  refine hl_call (As := [.int (xs (nI n + 1).toNatClampNeg)]) (rest := []) O hH (c_X11_ask hc1) ml_L_50 ly_0 rfl rfl hl.1 rfl ⟨(Nat.le_of_ble_eq_true rfl), (Nat.le_of_ble_eq_true rfl)⟩ (Nat.le_of_ble_eq_true rfl) ⟨(Nat.le_of_ble_eq_true rfl), (Nat.le_of_ble_eq_true rfl)⟩ dL_law_550 (fun H locs hH => ?_)
  refine lv_aload_n hx hb dL_law_553 rfl (lv_at hl 2 rfl) ?_
  refine lv_aload_n hx hb dL_law_554 rfl (lv_at hl 0 rfl) ?_
  refine lv_iload_n hx hb dL_law_555 rfl (lv_at hl 3 rfl) ?_
  refine lv_iconst (v := 1) hx hb dL_law_556 (by decide) ?_
  refine lv_iadd hx hb dL_law_557 ?_
  refine va_sld hx hb hX hbl hbA hH.2.2 (law_in hL (k := 1) rfl (by omega)) dL_law_558 ?_
  refine hl_call (As := [.int (xs (nI n + 1).toNatClampNeg)]) (rest := [.int r]) O hH (c_X12_ask hc2) ml_L_53 ly_281 rfl rfl hl.1 rfl ⟨(Nat.le_of_ble_eq_true rfl), (Nat.le_of_ble_eq_true rfl)⟩ (Nat.le_of_ble_eq_true rfl) ⟨(Nat.le_of_ble_eq_true rfl), (Nat.le_of_ble_eq_true rfl)⟩ dL_law_559 (fun H locs hH => ?_)
  refine lv_icmp_eq (tgt := 1136) hx hb dL_law_562 (by decide) (fun _ => ?_) (fun c1 => absurd rfl c1)
  exact hnext D2 hI _ _ _ hH hl
set_option maxHeartbeats 4000000 in
theorem law_behind {G : va_G} {tA : Nat → ClassId} {E : Ex} {p : Program} {l : Launch} {e : Env} {s : State} {m : MethodId} {below : List Frame} {meth : Method} {c : Code} {b L : Nat} {xs : Nat → Int32} {Inv : Dm → Prop} (hL : L ≤ 4096) (O : Ok G tA s.heap.size E code "WordLearnerLaw" 4 p s m #[Value.ref b] c) (hX : va_X b L xs s s.heap) (hbl : b < s.heap.size) {n : Nat} (hn : n + 8 ≤ L) (hS : St_behind Inv) (hnext : ∀ D : Dm, Inv D → ∀ (H : Heap) (locs : List Loc) (ls : Array Slot), Hp G tA s.heap.size LAY D s.heap H locs → lv_has ls 4 [(0, .ref b), (1, .ref (s.heap.size + 0)), (2, .ref (s.heap.size + 281)), (3, .int (nI n))] → W p l e room_1 s m #[Value.ref b] below meth c H locs 318 92873 (lw_Z below #[Value.ref b] s) (F0 m 1136 ls [])) (D : Dm) (hI : Inv D) (H : Heap) (locs : List Loc) (ls : Array Slot) (hH : Hp G tA s.heap.size LAY D s.heap H locs) (hl : lv_has ls 4 [(0, .ref b), (1, .ref (s.heap.size + 0)), (2, .ref (s.heap.size + 281)), (3, .int (nI n))]) : W p l e room_1 s m #[Value.ref b] below meth c H locs 318 92873 (lw_Z below #[Value.ref b] s) (F0 m 567 ls []) := by
  obtain ⟨hx, hb, -, hown, hts, -⟩ := id O
  have hbA : ¬ (fun q : Nat => s.heap.size ≤ q) b := Nat.not_le.mpr hbl
  obtain ⟨r, D1, D2, hc1, hc2, hI⟩ := hS D hI (xs (nI n + 1).toNatClampNeg) (xs (nI n + 2).toNatClampNeg) (xs (nI n + 3).toNatClampNeg)
  refine lv_aload_n hx hb dL_law_567 rfl (lv_at hl 1 rfl) ?_
  refine lv_aload_n hx hb dL_law_568 rfl (lv_at hl 0 rfl) ?_
  refine lv_iload_n hx hb dL_law_569 rfl (lv_at hl 3 rfl) ?_
  refine lv_iconst (v := 1) hx hb dL_law_570 (by decide) ?_
  refine lv_iadd hx hb dL_law_571 ?_
  refine va_sld hx hb hX hbl hbA hH.2.2 (law_in hL (k := 1) rfl (by omega)) dL_law_572 ?_
  refine lv_aload_n hx hb dL_law_573 rfl (lv_at hl 0 rfl) ?_
  refine lv_iload_n hx hb dL_law_574 rfl (lv_at hl 3 rfl) ?_
  refine lv_iconst (v := 2) hx hb dL_law_575 (by decide) ?_
  refine lv_iadd hx hb dL_law_576 ?_
  refine va_sld hx hb hX hbl hbA hH.2.2 (law_in hL (k := 2) rfl (by omega)) dL_law_577 ?_
  refine lv_aload_n hx hb dL_law_578 rfl (lv_at hl 0 rfl) ?_
  refine lv_iload_n hx hb dL_law_579 rfl (lv_at hl 3 rfl) ?_
  refine lv_iconst (v := 3) hx hb dL_law_580 (by decide) ?_
  refine lv_iadd hx hb dL_law_581 ?_
  refine va_sld hx hb hX hbl hbA hH.2.2 (law_in hL (k := 3) rfl (by omega)) dL_law_582 ?_
  refine hl_call (As := [.int (xs (nI n + 1).toNatClampNeg), .int (xs (nI n + 2).toNatClampNeg), .int (xs (nI n + 3).toNatClampNeg)]) (rest := []) O hH (c_X11_behind hc1) ml_L_54 ly_0 rfl rfl hl.1 rfl ⟨(Nat.le_of_ble_eq_true rfl), (Nat.le_of_ble_eq_true rfl)⟩ (Nat.le_of_ble_eq_true rfl) ⟨(Nat.le_of_ble_eq_true rfl), (Nat.le_of_ble_eq_true rfl)⟩ dL_law_583 (fun H locs hH => ?_)
  refine lv_aload_n hx hb dL_law_586 rfl (lv_at hl 2 rfl) ?_
  refine lv_aload_n hx hb dL_law_587 rfl (lv_at hl 0 rfl) ?_
  refine lv_iload_n hx hb dL_law_588 rfl (lv_at hl 3 rfl) ?_
  refine lv_iconst (v := 1) hx hb dL_law_589 (by decide) ?_
  refine lv_iadd hx hb dL_law_590 ?_
  refine va_sld hx hb hX hbl hbA hH.2.2 (law_in hL (k := 1) rfl (by omega)) dL_law_591 ?_
  refine lv_aload_n hx hb dL_law_592 rfl (lv_at hl 0 rfl) ?_
  refine lv_iload_n hx hb dL_law_593 rfl (lv_at hl 3 rfl) ?_
  refine lv_iconst (v := 2) hx hb dL_law_594 (by decide) ?_
  refine lv_iadd hx hb dL_law_595 ?_
  refine va_sld hx hb hX hbl hbA hH.2.2 (law_in hL (k := 2) rfl (by omega)) dL_law_596 ?_
  refine lv_aload_n hx hb dL_law_597 rfl (lv_at hl 0 rfl) ?_
  refine lv_iload_n hx hb dL_law_598 rfl (lv_at hl 3 rfl) ?_
  refine lv_iconst (v := 3) hx hb dL_law_599 (by decide) ?_
  refine lv_iadd hx hb dL_law_600 ?_
  refine va_sld hx hb hX hbl hbA hH.2.2 (law_in hL (k := 3) rfl (by omega)) dL_law_601 ?_
  refine hl_call (As := [.int (xs (nI n + 1).toNatClampNeg), .int (xs (nI n + 2).toNatClampNeg), .int (xs (nI n + 3).toNatClampNeg)]) (rest := [.int r]) O hH (c_X12_behind hc2) ml_L_57 ly_281 rfl rfl hl.1 rfl ⟨(Nat.le_of_ble_eq_true rfl), (Nat.le_of_ble_eq_true rfl)⟩ (Nat.le_of_ble_eq_true rfl) ⟨(Nat.le_of_ble_eq_true rfl), (Nat.le_of_ble_eq_true rfl)⟩ dL_law_602 (fun H locs hH => ?_)
  refine lv_icmp_eq (tgt := 1136) hx hb dL_law_605 (by decide) (fun _ => ?_) (fun c1 => absurd rfl c1)
  exact hnext D2 hI _ _ _ hH hl
set_option maxHeartbeats 4000000 in
theorem law_many {G : va_G} {tA : Nat → ClassId} {E : Ex} {p : Program} {l : Launch} {e : Env} {s : State} {m : MethodId} {below : List Frame} {meth : Method} {c : Code} {b L : Nat} {xs : Nat → Int32} {Inv : Dm → Prop} (hL : L ≤ 4096) (O : Ok G tA s.heap.size E code "WordLearnerLaw" 4 p s m #[Value.ref b] c) (hX : va_X b L xs s s.heap) (hbl : b < s.heap.size) {n : Nat} (hn : n + 8 ≤ L) (hS : St_many Inv) (hnext : ∀ D : Dm, Inv D → ∀ (H : Heap) (locs : List Loc) (ls : Array Slot), Hp G tA s.heap.size LAY D s.heap H locs → lv_has ls 4 [(0, .ref b), (1, .ref (s.heap.size + 0)), (2, .ref (s.heap.size + 281)), (3, .int (nI n))] → W p l e room_1 s m #[Value.ref b] below meth c H locs 318 92873 (lw_Z below #[Value.ref b] s) (F0 m 1136 ls [])) (D : Dm) (hI : Inv D) (H : Heap) (locs : List Loc) (ls : Array Slot) (hH : Hp G tA s.heap.size LAY D s.heap H locs) (hl : lv_has ls 4 [(0, .ref b), (1, .ref (s.heap.size + 0)), (2, .ref (s.heap.size + 281)), (3, .int (nI n))]) : W p l e room_1 s m #[Value.ref b] below meth c H locs 318 92873 (lw_Z below #[Value.ref b] s) (F0 m 610 ls []) := by
  obtain ⟨hx, hb, -, hown, hts, -⟩ := id O
  have hbA : ¬ (fun q : Nat => s.heap.size ≤ q) b := Nat.not_le.mpr hbl
  obtain ⟨r, D1, D2, hc1, hc2, hI⟩ := hS D hI (xs (nI n + 1).toNatClampNeg) (xs (nI n + 2).toNatClampNeg)
  refine lv_aload_n hx hb dL_law_610 rfl (lv_at hl 1 rfl) ?_
  refine lv_aload_n hx hb dL_law_611 rfl (lv_at hl 0 rfl) ?_
  refine lv_iload_n hx hb dL_law_612 rfl (lv_at hl 3 rfl) ?_
  refine lv_iconst (v := 1) hx hb dL_law_613 (by decide) ?_
  refine lv_iadd hx hb dL_law_614 ?_
  refine va_sld hx hb hX hbl hbA hH.2.2 (law_in hL (k := 1) rfl (by omega)) dL_law_615 ?_
  refine lv_aload_n hx hb dL_law_616 rfl (lv_at hl 0 rfl) ?_
  refine lv_iload_n hx hb dL_law_617 rfl (lv_at hl 3 rfl) ?_
  refine lv_iconst (v := 2) hx hb dL_law_618 (by decide) ?_
  refine lv_iadd hx hb dL_law_619 ?_
  refine va_sld hx hb hX hbl hbA hH.2.2 (law_in hL (k := 2) rfl (by omega)) dL_law_620 ?_
  refine hl_call (As := [.int (xs (nI n + 1).toNatClampNeg), .int (xs (nI n + 2).toNatClampNeg)]) (rest := []) O hH (c_X11_many hc1) ml_L_58 ly_0 rfl rfl hl.1 rfl ⟨(Nat.le_of_ble_eq_true rfl), (Nat.le_of_ble_eq_true rfl)⟩ (Nat.le_of_ble_eq_true rfl) ⟨(Nat.le_of_ble_eq_true rfl), (Nat.le_of_ble_eq_true rfl)⟩ dL_law_621 (fun H locs hH => ?_)
  refine lv_aload_n hx hb dL_law_624 rfl (lv_at hl 2 rfl) ?_
  refine lv_aload_n hx hb dL_law_625 rfl (lv_at hl 0 rfl) ?_
  refine lv_iload_n hx hb dL_law_626 rfl (lv_at hl 3 rfl) ?_
  refine lv_iconst (v := 1) hx hb dL_law_627 (by decide) ?_
  refine lv_iadd hx hb dL_law_628 ?_
  refine va_sld hx hb hX hbl hbA hH.2.2 (law_in hL (k := 1) rfl (by omega)) dL_law_629 ?_
  refine lv_aload_n hx hb dL_law_630 rfl (lv_at hl 0 rfl) ?_
  refine lv_iload_n hx hb dL_law_631 rfl (lv_at hl 3 rfl) ?_
  refine lv_iconst (v := 2) hx hb dL_law_632 (by decide) ?_
  refine lv_iadd hx hb dL_law_633 ?_
  refine va_sld hx hb hX hbl hbA hH.2.2 (law_in hL (k := 2) rfl (by omega)) dL_law_634 ?_
  refine hl_call (As := [.int (xs (nI n + 1).toNatClampNeg), .int (xs (nI n + 2).toNatClampNeg)]) (rest := [.int r]) O hH (c_X12_many hc2) ml_L_61 ly_281 rfl rfl hl.1 rfl ⟨(Nat.le_of_ble_eq_true rfl), (Nat.le_of_ble_eq_true rfl)⟩ (Nat.le_of_ble_eq_true rfl) ⟨(Nat.le_of_ble_eq_true rfl), (Nat.le_of_ble_eq_true rfl)⟩ dL_law_635 (fun H locs hH => ?_)
  refine lv_icmp_eq (tgt := 1136) hx hb dL_law_638 (by decide) (fun _ => ?_) (fun c1 => absurd rfl c1)
  exact hnext D2 hI _ _ _ hH hl
set_option maxHeartbeats 4000000 in
theorem law_share {G : va_G} {tA : Nat → ClassId} {E : Ex} {p : Program} {l : Launch} {e : Env} {s : State} {m : MethodId} {below : List Frame} {meth : Method} {c : Code} {b L : Nat} {xs : Nat → Int32} {Inv : Dm → Prop} (hL : L ≤ 4096) (O : Ok G tA s.heap.size E code "WordLearnerLaw" 4 p s m #[Value.ref b] c) (hX : va_X b L xs s s.heap) (hbl : b < s.heap.size) {n : Nat} (hn : n + 8 ≤ L) (hS : St_share Inv) (hnext : ∀ D : Dm, Inv D → ∀ (H : Heap) (locs : List Loc) (ls : Array Slot), Hp G tA s.heap.size LAY D s.heap H locs → lv_has ls 4 [(0, .ref b), (1, .ref (s.heap.size + 0)), (2, .ref (s.heap.size + 281)), (3, .int (nI n))] → W p l e room_1 s m #[Value.ref b] below meth c H locs 318 92873 (lw_Z below #[Value.ref b] s) (F0 m 1136 ls [])) (D : Dm) (hI : Inv D) (H : Heap) (locs : List Loc) (ls : Array Slot) (hH : Hp G tA s.heap.size LAY D s.heap H locs) (hl : lv_has ls 4 [(0, .ref b), (1, .ref (s.heap.size + 0)), (2, .ref (s.heap.size + 281)), (3, .int (nI n))]) : W p l e room_1 s m #[Value.ref b] below meth c H locs 318 92873 (lw_Z below #[Value.ref b] s) (F0 m 643 ls []) := by
  obtain ⟨hx, hb, -, hown, hts, -⟩ := id O
  have hbA : ¬ (fun q : Nat => s.heap.size ≤ q) b := Nat.not_le.mpr hbl
  obtain ⟨r, D1, D2, hc1, hc2, hI⟩ := hS D hI (xs (nI n + 1).toNatClampNeg) (xs (nI n + 2).toNatClampNeg)
  refine lv_aload_n hx hb dL_law_643 rfl (lv_at hl 1 rfl) ?_
  refine lv_aload_n hx hb dL_law_644 rfl (lv_at hl 0 rfl) ?_
  refine lv_iload_n hx hb dL_law_645 rfl (lv_at hl 3 rfl) ?_
  refine lv_iconst (v := 1) hx hb dL_law_646 (by decide) ?_
  refine lv_iadd hx hb dL_law_647 ?_
  refine va_sld hx hb hX hbl hbA hH.2.2 (law_in hL (k := 1) rfl (by omega)) dL_law_648 ?_
  refine lv_aload_n hx hb dL_law_649 rfl (lv_at hl 0 rfl) ?_
  refine lv_iload_n hx hb dL_law_650 rfl (lv_at hl 3 rfl) ?_
  refine lv_iconst (v := 2) hx hb dL_law_651 (by decide) ?_
  refine lv_iadd hx hb dL_law_652 ?_
  refine va_sld hx hb hX hbl hbA hH.2.2 (law_in hL (k := 2) rfl (by omega)) dL_law_653 ?_
  refine hl_call (As := [.int (xs (nI n + 1).toNatClampNeg), .int (xs (nI n + 2).toNatClampNeg)]) (rest := []) O hH (c_X11_share hc1) ml_L_62 ly_0 rfl rfl hl.1 rfl ⟨(Nat.le_of_ble_eq_true rfl), (Nat.le_of_ble_eq_true rfl)⟩ (Nat.le_of_ble_eq_true rfl) ⟨(Nat.le_of_ble_eq_true rfl), (Nat.le_of_ble_eq_true rfl)⟩ dL_law_654 (fun H locs hH => ?_)
  refine lv_aload_n hx hb dL_law_657 rfl (lv_at hl 2 rfl) ?_
  refine lv_aload_n hx hb dL_law_658 rfl (lv_at hl 0 rfl) ?_
  refine lv_iload_n hx hb dL_law_659 rfl (lv_at hl 3 rfl) ?_
  refine lv_iconst (v := 1) hx hb dL_law_660 (by decide) ?_
  refine lv_iadd hx hb dL_law_661 ?_
  refine va_sld hx hb hX hbl hbA hH.2.2 (law_in hL (k := 1) rfl (by omega)) dL_law_662 ?_
  refine lv_aload_n hx hb dL_law_663 rfl (lv_at hl 0 rfl) ?_
  refine lv_iload_n hx hb dL_law_664 rfl (lv_at hl 3 rfl) ?_
  refine lv_iconst (v := 2) hx hb dL_law_665 (by decide) ?_
  refine lv_iadd hx hb dL_law_666 ?_
  refine va_sld hx hb hX hbl hbA hH.2.2 (law_in hL (k := 2) rfl (by omega)) dL_law_667 ?_
  refine hl_call (As := [.int (xs (nI n + 1).toNatClampNeg), .int (xs (nI n + 2).toNatClampNeg)]) (rest := [.int r]) O hH (c_X12_share hc2) ml_L_65 ly_281 rfl rfl hl.1 rfl ⟨(Nat.le_of_ble_eq_true rfl), (Nat.le_of_ble_eq_true rfl)⟩ (Nat.le_of_ble_eq_true rfl) ⟨(Nat.le_of_ble_eq_true rfl), (Nat.le_of_ble_eq_true rfl)⟩ dL_law_668 (fun H locs hH => ?_)
  refine lv_icmp_eq (tgt := 1136) hx hb dL_law_671 (by decide) (fun _ => ?_) (fun c1 => absurd rfl c1)
  exact hnext D2 hI _ _ _ hH hl
set_option maxHeartbeats 4000000 in
theorem law_differ {G : va_G} {tA : Nat → ClassId} {E : Ex} {p : Program} {l : Launch} {e : Env} {s : State} {m : MethodId} {below : List Frame} {meth : Method} {c : Code} {b L : Nat} {xs : Nat → Int32} {Inv : Dm → Prop} (hL : L ≤ 4096) (O : Ok G tA s.heap.size E code "WordLearnerLaw" 4 p s m #[Value.ref b] c) (hX : va_X b L xs s s.heap) (hbl : b < s.heap.size) {n : Nat} (hn : n + 8 ≤ L) (hS : St_differ Inv) (hnext : ∀ D : Dm, Inv D → ∀ (H : Heap) (locs : List Loc) (ls : Array Slot), Hp G tA s.heap.size LAY D s.heap H locs → lv_has ls 4 [(0, .ref b), (1, .ref (s.heap.size + 0)), (2, .ref (s.heap.size + 281)), (3, .int (nI n))] → W p l e room_1 s m #[Value.ref b] below meth c H locs 318 92873 (lw_Z below #[Value.ref b] s) (F0 m 1136 ls [])) (D : Dm) (hI : Inv D) (H : Heap) (locs : List Loc) (ls : Array Slot) (hH : Hp G tA s.heap.size LAY D s.heap H locs) (hl : lv_has ls 4 [(0, .ref b), (1, .ref (s.heap.size + 0)), (2, .ref (s.heap.size + 281)), (3, .int (nI n))]) : W p l e room_1 s m #[Value.ref b] below meth c H locs 318 92873 (lw_Z below #[Value.ref b] s) (F0 m 676 ls []) := by
  obtain ⟨hx, hb, -, hown, hts, -⟩ := id O
  have hbA : ¬ (fun q : Nat => s.heap.size ≤ q) b := Nat.not_le.mpr hbl
  obtain ⟨r, D1, D2, hc1, hc2, hI⟩ := hS D hI 
  refine lv_aload_n hx hb dL_law_676 rfl (lv_at hl 1 rfl) ?_
  refine hl_call (As := []) (rest := []) O hH (c_X11_differ hc1) ml_L_66 ly_0 rfl rfl hl.1 rfl ⟨(Nat.le_of_ble_eq_true rfl), (Nat.le_of_ble_eq_true rfl)⟩ (Nat.le_of_ble_eq_true rfl) ⟨(Nat.le_of_ble_eq_true rfl), (Nat.le_of_ble_eq_true rfl)⟩ dL_law_677 (fun H locs hH => ?_)
  refine lv_aload_n hx hb dL_law_680 rfl (lv_at hl 2 rfl) ?_
  refine hl_call (As := []) (rest := [.int r]) O hH (c_X12_differ hc2) ml_L_70 ly_281 rfl rfl hl.1 rfl ⟨(Nat.le_of_ble_eq_true rfl), (Nat.le_of_ble_eq_true rfl)⟩ (Nat.le_of_ble_eq_true rfl) ⟨(Nat.le_of_ble_eq_true rfl), (Nat.le_of_ble_eq_true rfl)⟩ dL_law_681 (fun H locs hH => ?_)
  refine lv_icmp_eq (tgt := 1136) hx hb dL_law_684 (by decide) (fun _ => ?_) (fun c1 => absurd rfl c1)
  exact hnext D2 hI _ _ _ hH hl
set_option maxHeartbeats 4000000 in
theorem law_differs {G : va_G} {tA : Nat → ClassId} {E : Ex} {p : Program} {l : Launch} {e : Env} {s : State} {m : MethodId} {below : List Frame} {meth : Method} {c : Code} {b L : Nat} {xs : Nat → Int32} {Inv : Dm → Prop} (hL : L ≤ 4096) (O : Ok G tA s.heap.size E code "WordLearnerLaw" 4 p s m #[Value.ref b] c) (hX : va_X b L xs s s.heap) (hbl : b < s.heap.size) {n : Nat} (hn : n + 8 ≤ L) (hS : St_differs Inv) (hnext : ∀ D : Dm, Inv D → ∀ (H : Heap) (locs : List Loc) (ls : Array Slot), Hp G tA s.heap.size LAY D s.heap H locs → lv_has ls 4 [(0, .ref b), (1, .ref (s.heap.size + 0)), (2, .ref (s.heap.size + 281)), (3, .int (nI n))] → W p l e room_1 s m #[Value.ref b] below meth c H locs 318 92873 (lw_Z below #[Value.ref b] s) (F0 m 1136 ls [])) (D : Dm) (hI : Inv D) (H : Heap) (locs : List Loc) (ls : Array Slot) (hH : Hp G tA s.heap.size LAY D s.heap H locs) (hl : lv_has ls 4 [(0, .ref b), (1, .ref (s.heap.size + 0)), (2, .ref (s.heap.size + 281)), (3, .int (nI n))]) : W p l e room_1 s m #[Value.ref b] below meth c H locs 318 92873 (lw_Z below #[Value.ref b] s) (F0 m 689 ls []) := by
  obtain ⟨hx, hb, -, hown, hts, -⟩ := id O
  have hbA : ¬ (fun q : Nat => s.heap.size ≤ q) b := Nat.not_le.mpr hbl
  obtain ⟨r, D1, D2, hc1, hc2, hI⟩ := hS D hI (xs (nI n + 1).toNatClampNeg) (xs (nI n + 2).toNatClampNeg)
  refine lv_aload_n hx hb dL_law_689 rfl (lv_at hl 1 rfl) ?_
  refine lv_aload_n hx hb dL_law_690 rfl (lv_at hl 0 rfl) ?_
  refine lv_iload_n hx hb dL_law_691 rfl (lv_at hl 3 rfl) ?_
  refine lv_iconst (v := 1) hx hb dL_law_692 (by decide) ?_
  refine lv_iadd hx hb dL_law_693 ?_
  refine va_sld hx hb hX hbl hbA hH.2.2 (law_in hL (k := 1) rfl (by omega)) dL_law_694 ?_
  refine lv_aload_n hx hb dL_law_695 rfl (lv_at hl 0 rfl) ?_
  refine lv_iload_n hx hb dL_law_696 rfl (lv_at hl 3 rfl) ?_
  refine lv_iconst (v := 2) hx hb dL_law_697 (by decide) ?_
  refine lv_iadd hx hb dL_law_698 ?_
  refine va_sld hx hb hX hbl hbA hH.2.2 (law_in hL (k := 2) rfl (by omega)) dL_law_699 ?_
  refine hl_call (As := [.int (xs (nI n + 1).toNatClampNeg), .int (xs (nI n + 2).toNatClampNeg)]) (rest := []) O hH (c_X11_differs hc1) ml_L_71 ly_0 rfl rfl hl.1 rfl ⟨(Nat.le_of_ble_eq_true rfl), (Nat.le_of_ble_eq_true rfl)⟩ (Nat.le_of_ble_eq_true rfl) ⟨(Nat.le_of_ble_eq_true rfl), (Nat.le_of_ble_eq_true rfl)⟩ dL_law_700 (fun H locs hH => ?_)
  refine lv_aload_n hx hb dL_law_703 rfl (lv_at hl 2 rfl) ?_
  refine lv_aload_n hx hb dL_law_704 rfl (lv_at hl 0 rfl) ?_
  refine lv_iload_n hx hb dL_law_705 rfl (lv_at hl 3 rfl) ?_
  refine lv_iconst (v := 1) hx hb dL_law_706 (by decide) ?_
  refine lv_iadd hx hb dL_law_707 ?_
  refine va_sld hx hb hX hbl hbA hH.2.2 (law_in hL (k := 1) rfl (by omega)) dL_law_708 ?_
  refine lv_aload_n hx hb dL_law_709 rfl (lv_at hl 0 rfl) ?_
  refine lv_iload_n hx hb dL_law_710 rfl (lv_at hl 3 rfl) ?_
  refine lv_iconst (v := 2) hx hb dL_law_711 (by decide) ?_
  refine lv_iadd hx hb dL_law_712 ?_
  refine va_sld hx hb hX hbl hbA hH.2.2 (law_in hL (k := 2) rfl (by omega)) dL_law_713 ?_
  refine hl_call (As := [.int (xs (nI n + 1).toNatClampNeg), .int (xs (nI n + 2).toNatClampNeg)]) (rest := [.int r]) O hH (c_X12_differs hc2) ml_L_74 ly_281 rfl rfl hl.1 rfl ⟨(Nat.le_of_ble_eq_true rfl), (Nat.le_of_ble_eq_true rfl)⟩ (Nat.le_of_ble_eq_true rfl) ⟨(Nat.le_of_ble_eq_true rfl), (Nat.le_of_ble_eq_true rfl)⟩ dL_law_714 (fun H locs hH => ?_)
  refine lv_icmp_eq (tgt := 1136) hx hb dL_law_717 (by decide) (fun _ => ?_) (fun c1 => absurd rfl c1)
  exact hnext D2 hI _ _ _ hH hl
set_option maxHeartbeats 4000000 in
theorem law_couples {G : va_G} {tA : Nat → ClassId} {E : Ex} {p : Program} {l : Launch} {e : Env} {s : State} {m : MethodId} {below : List Frame} {meth : Method} {c : Code} {b L : Nat} {xs : Nat → Int32} {Inv : Dm → Prop} (hL : L ≤ 4096) (O : Ok G tA s.heap.size E code "WordLearnerLaw" 4 p s m #[Value.ref b] c) (hX : va_X b L xs s s.heap) (hbl : b < s.heap.size) {n : Nat} (hn : n + 8 ≤ L) (hS : St_couples Inv) (hnext : ∀ D : Dm, Inv D → ∀ (H : Heap) (locs : List Loc) (ls : Array Slot), Hp G tA s.heap.size LAY D s.heap H locs → lv_has ls 4 [(0, .ref b), (1, .ref (s.heap.size + 0)), (2, .ref (s.heap.size + 281)), (3, .int (nI n))] → W p l e room_1 s m #[Value.ref b] below meth c H locs 318 92873 (lw_Z below #[Value.ref b] s) (F0 m 1136 ls [])) (D : Dm) (hI : Inv D) (H : Heap) (locs : List Loc) (ls : Array Slot) (hH : Hp G tA s.heap.size LAY D s.heap H locs) (hl : lv_has ls 4 [(0, .ref b), (1, .ref (s.heap.size + 0)), (2, .ref (s.heap.size + 281)), (3, .int (nI n))]) : W p l e room_1 s m #[Value.ref b] below meth c H locs 318 92873 (lw_Z below #[Value.ref b] s) (F0 m 722 ls []) := by
  obtain ⟨hx, hb, -, hown, hts, -⟩ := id O
  have hbA : ¬ (fun q : Nat => s.heap.size ≤ q) b := Nat.not_le.mpr hbl
  obtain ⟨r, D1, D2, hc1, hc2, hI⟩ := hS D hI 
  refine lv_aload_n hx hb dL_law_722 rfl (lv_at hl 1 rfl) ?_
  refine hl_call (As := []) (rest := []) O hH (c_X11_couples hc1) ml_L_75 ly_0 rfl rfl hl.1 rfl ⟨(Nat.le_of_ble_eq_true rfl), (Nat.le_of_ble_eq_true rfl)⟩ (Nat.le_of_ble_eq_true rfl) ⟨(Nat.le_of_ble_eq_true rfl), (Nat.le_of_ble_eq_true rfl)⟩ dL_law_723 (fun H locs hH => ?_)
  refine lv_aload_n hx hb dL_law_726 rfl (lv_at hl 2 rfl) ?_
  refine hl_call (As := []) (rest := [.int r]) O hH (c_X12_couples hc2) ml_L_78 ly_281 rfl rfl hl.1 rfl ⟨(Nat.le_of_ble_eq_true rfl), (Nat.le_of_ble_eq_true rfl)⟩ (Nat.le_of_ble_eq_true rfl) ⟨(Nat.le_of_ble_eq_true rfl), (Nat.le_of_ble_eq_true rfl)⟩ dL_law_727 (fun H locs hH => ?_)
  refine lv_icmp_eq (tgt := 1136) hx hb dL_law_730 (by decide) (fun _ => ?_) (fun c1 => absurd rfl c1)
  exact hnext D2 hI _ _ _ hH hl
set_option maxHeartbeats 4000000 in
theorem law_letter {G : va_G} {tA : Nat → ClassId} {E : Ex} {p : Program} {l : Launch} {e : Env} {s : State} {m : MethodId} {below : List Frame} {meth : Method} {c : Code} {b L : Nat} {xs : Nat → Int32} {Inv : Dm → Prop} (hL : L ≤ 4096) (O : Ok G tA s.heap.size E code "WordLearnerLaw" 4 p s m #[Value.ref b] c) (hX : va_X b L xs s s.heap) (hbl : b < s.heap.size) {n : Nat} (hn : n + 8 ≤ L) (hS : St_letter Inv) (hnext : ∀ D : Dm, Inv D → ∀ (H : Heap) (locs : List Loc) (ls : Array Slot), Hp G tA s.heap.size LAY D s.heap H locs → lv_has ls 4 [(0, .ref b), (1, .ref (s.heap.size + 0)), (2, .ref (s.heap.size + 281)), (3, .int (nI n))] → W p l e room_1 s m #[Value.ref b] below meth c H locs 318 92873 (lw_Z below #[Value.ref b] s) (F0 m 1136 ls [])) (D : Dm) (hI : Inv D) (H : Heap) (locs : List Loc) (ls : Array Slot) (hH : Hp G tA s.heap.size LAY D s.heap H locs) (hl : lv_has ls 4 [(0, .ref b), (1, .ref (s.heap.size + 0)), (2, .ref (s.heap.size + 281)), (3, .int (nI n))]) : W p l e room_1 s m #[Value.ref b] below meth c H locs 318 92873 (lw_Z below #[Value.ref b] s) (F0 m 735 ls []) := by
  obtain ⟨hx, hb, -, hown, hts, -⟩ := id O
  have hbA : ¬ (fun q : Nat => s.heap.size ≤ q) b := Nat.not_le.mpr hbl
  obtain ⟨r, D1, D2, hc1, hc2, hI⟩ := hS D hI (xs (nI n + 1).toNatClampNeg) (xs (nI n + 2).toNatClampNeg)
  refine lv_aload_n hx hb dL_law_735 rfl (lv_at hl 1 rfl) ?_
  refine lv_aload_n hx hb dL_law_736 rfl (lv_at hl 0 rfl) ?_
  refine lv_iload_n hx hb dL_law_737 rfl (lv_at hl 3 rfl) ?_
  refine lv_iconst (v := 1) hx hb dL_law_738 (by decide) ?_
  refine lv_iadd hx hb dL_law_739 ?_
  refine va_sld hx hb hX hbl hbA hH.2.2 (law_in hL (k := 1) rfl (by omega)) dL_law_740 ?_
  refine lv_aload_n hx hb dL_law_741 rfl (lv_at hl 0 rfl) ?_
  refine lv_iload_n hx hb dL_law_742 rfl (lv_at hl 3 rfl) ?_
  refine lv_iconst (v := 2) hx hb dL_law_743 (by decide) ?_
  refine lv_iadd hx hb dL_law_744 ?_
  refine va_sld hx hb hX hbl hbA hH.2.2 (law_in hL (k := 2) rfl (by omega)) dL_law_745 ?_
  refine hl_call (As := [.int (xs (nI n + 1).toNatClampNeg), .int (xs (nI n + 2).toNatClampNeg)]) (rest := []) O hH (c_X11_letter hc1) ml_L_79 ly_0 rfl rfl hl.1 rfl ⟨(Nat.le_of_ble_eq_true rfl), (Nat.le_of_ble_eq_true rfl)⟩ (Nat.le_of_ble_eq_true rfl) ⟨(Nat.le_of_ble_eq_true rfl), (Nat.le_of_ble_eq_true rfl)⟩ dL_law_746 (fun H locs hH => ?_)
  refine lv_aload_n hx hb dL_law_749 rfl (lv_at hl 2 rfl) ?_
  refine lv_aload_n hx hb dL_law_750 rfl (lv_at hl 0 rfl) ?_
  refine lv_iload_n hx hb dL_law_751 rfl (lv_at hl 3 rfl) ?_
  refine lv_iconst (v := 1) hx hb dL_law_752 (by decide) ?_
  refine lv_iadd hx hb dL_law_753 ?_
  refine va_sld hx hb hX hbl hbA hH.2.2 (law_in hL (k := 1) rfl (by omega)) dL_law_754 ?_
  refine lv_aload_n hx hb dL_law_755 rfl (lv_at hl 0 rfl) ?_
  refine lv_iload_n hx hb dL_law_756 rfl (lv_at hl 3 rfl) ?_
  refine lv_iconst (v := 2) hx hb dL_law_757 (by decide) ?_
  refine lv_iadd hx hb dL_law_758 ?_
  refine va_sld hx hb hX hbl hbA hH.2.2 (law_in hL (k := 2) rfl (by omega)) dL_law_759 ?_
  refine hl_call (As := [.int (xs (nI n + 1).toNatClampNeg), .int (xs (nI n + 2).toNatClampNeg)]) (rest := [.int r]) O hH (c_X12_letter hc2) ml_L_82 ly_281 rfl rfl hl.1 rfl ⟨(Nat.le_of_ble_eq_true rfl), (Nat.le_of_ble_eq_true rfl)⟩ (Nat.le_of_ble_eq_true rfl) ⟨(Nat.le_of_ble_eq_true rfl), (Nat.le_of_ble_eq_true rfl)⟩ dL_law_760 (fun H locs hH => ?_)
  refine lv_icmp_eq (tgt := 1136) hx hb dL_law_763 (by decide) (fun _ => ?_) (fun c1 => absurd rfl c1)
  exact hnext D2 hI _ _ _ hH hl
set_option maxHeartbeats 4000000 in
theorem law_remembered {G : va_G} {tA : Nat → ClassId} {E : Ex} {p : Program} {l : Launch} {e : Env} {s : State} {m : MethodId} {below : List Frame} {meth : Method} {c : Code} {b L : Nat} {xs : Nat → Int32} {Inv : Dm → Prop} (hL : L ≤ 4096) (O : Ok G tA s.heap.size E code "WordLearnerLaw" 4 p s m #[Value.ref b] c) (hX : va_X b L xs s s.heap) (hbl : b < s.heap.size) {n : Nat} (hn : n + 8 ≤ L) (hS : St_remembered Inv) (hnext : ∀ D : Dm, Inv D → ∀ (H : Heap) (locs : List Loc) (ls : Array Slot), Hp G tA s.heap.size LAY D s.heap H locs → lv_has ls 4 [(0, .ref b), (1, .ref (s.heap.size + 0)), (2, .ref (s.heap.size + 281)), (3, .int (nI n))] → W p l e room_1 s m #[Value.ref b] below meth c H locs 318 92873 (lw_Z below #[Value.ref b] s) (F0 m 1136 ls [])) (D : Dm) (hI : Inv D) (H : Heap) (locs : List Loc) (ls : Array Slot) (hH : Hp G tA s.heap.size LAY D s.heap H locs) (hl : lv_has ls 4 [(0, .ref b), (1, .ref (s.heap.size + 0)), (2, .ref (s.heap.size + 281)), (3, .int (nI n))]) : W p l e room_1 s m #[Value.ref b] below meth c H locs 318 92873 (lw_Z below #[Value.ref b] s) (F0 m 768 ls []) := by
  obtain ⟨hx, hb, -, hown, hts, -⟩ := id O
  have hbA : ¬ (fun q : Nat => s.heap.size ≤ q) b := Nat.not_le.mpr hbl
  obtain ⟨r, D1, D2, hc1, hc2, hI⟩ := hS D hI 
  refine lv_aload_n hx hb dL_law_768 rfl (lv_at hl 1 rfl) ?_
  refine hl_call (As := []) (rest := []) O hH (c_X11_remembered hc1) ml_L_83 ly_0 rfl rfl hl.1 rfl ⟨(Nat.le_of_ble_eq_true rfl), (Nat.le_of_ble_eq_true rfl)⟩ (Nat.le_of_ble_eq_true rfl) ⟨(Nat.le_of_ble_eq_true rfl), (Nat.le_of_ble_eq_true rfl)⟩ dL_law_769 (fun H locs hH => ?_)
  refine lv_aload_n hx hb dL_law_772 rfl (lv_at hl 2 rfl) ?_
  refine hl_call (As := []) (rest := [.int r]) O hH (c_X12_remembered hc2) ml_L_86 ly_281 rfl rfl hl.1 rfl ⟨(Nat.le_of_ble_eq_true rfl), (Nat.le_of_ble_eq_true rfl)⟩ (Nat.le_of_ble_eq_true rfl) ⟨(Nat.le_of_ble_eq_true rfl), (Nat.le_of_ble_eq_true rfl)⟩ dL_law_773 (fun H locs hH => ?_)
  refine lv_icmp_eq (tgt := 1136) hx hb dL_law_776 (by decide) (fun _ => ?_) (fun c1 => absurd rfl c1)
  exact hnext D2 hI _ _ _ hH hl
set_option maxHeartbeats 4000000 in
theorem law_alike {G : va_G} {tA : Nat → ClassId} {E : Ex} {p : Program} {l : Launch} {e : Env} {s : State} {m : MethodId} {below : List Frame} {meth : Method} {c : Code} {b L : Nat} {xs : Nat → Int32} {Inv : Dm → Prop} (hL : L ≤ 4096) (O : Ok G tA s.heap.size E code "WordLearnerLaw" 4 p s m #[Value.ref b] c) (hX : va_X b L xs s s.heap) (hbl : b < s.heap.size) {n : Nat} (hn : n + 8 ≤ L) (hS : St_alike Inv) (hnext : ∀ D : Dm, Inv D → ∀ (H : Heap) (locs : List Loc) (ls : Array Slot), Hp G tA s.heap.size LAY D s.heap H locs → lv_has ls 4 [(0, .ref b), (1, .ref (s.heap.size + 0)), (2, .ref (s.heap.size + 281)), (3, .int (nI n))] → W p l e room_1 s m #[Value.ref b] below meth c H locs 318 92873 (lw_Z below #[Value.ref b] s) (F0 m 1136 ls [])) (D : Dm) (hI : Inv D) (H : Heap) (locs : List Loc) (ls : Array Slot) (hH : Hp G tA s.heap.size LAY D s.heap H locs) (hl : lv_has ls 4 [(0, .ref b), (1, .ref (s.heap.size + 0)), (2, .ref (s.heap.size + 281)), (3, .int (nI n))]) : W p l e room_1 s m #[Value.ref b] below meth c H locs 318 92873 (lw_Z below #[Value.ref b] s) (F0 m 781 ls []) := by
  obtain ⟨hx, hb, -, hown, hts, -⟩ := id O
  have hbA : ¬ (fun q : Nat => s.heap.size ≤ q) b := Nat.not_le.mpr hbl
  obtain ⟨r, D1, D2, hc1, hc2, hI⟩ := hS D hI (xs (nI n + 1).toNatClampNeg)
  refine lv_aload_n hx hb dL_law_781 rfl (lv_at hl 1 rfl) ?_
  refine lv_aload_n hx hb dL_law_782 rfl (lv_at hl 0 rfl) ?_
  refine lv_iload_n hx hb dL_law_783 rfl (lv_at hl 3 rfl) ?_
  refine lv_iconst (v := 1) hx hb dL_law_784 (by decide) ?_
  refine lv_iadd hx hb dL_law_785 ?_
  refine va_sld hx hb hX hbl hbA hH.2.2 (law_in hL (k := 1) rfl (by omega)) dL_law_786 ?_
  refine hl_call (As := [.int (xs (nI n + 1).toNatClampNeg)]) (rest := []) O hH (c_X11_alike hc1) ml_L_87 ly_0 rfl rfl hl.1 rfl ⟨(Nat.le_of_ble_eq_true rfl), (Nat.le_of_ble_eq_true rfl)⟩ (Nat.le_of_ble_eq_true rfl) ⟨(Nat.le_of_ble_eq_true rfl), (Nat.le_of_ble_eq_true rfl)⟩ dL_law_787 (fun H locs hH => ?_)
  refine lv_aload_n hx hb dL_law_790 rfl (lv_at hl 2 rfl) ?_
  refine lv_aload_n hx hb dL_law_791 rfl (lv_at hl 0 rfl) ?_
  refine lv_iload_n hx hb dL_law_792 rfl (lv_at hl 3 rfl) ?_
  refine lv_iconst (v := 1) hx hb dL_law_793 (by decide) ?_
  refine lv_iadd hx hb dL_law_794 ?_
  refine va_sld hx hb hX hbl hbA hH.2.2 (law_in hL (k := 1) rfl (by omega)) dL_law_795 ?_
  refine hl_call (As := [.int (xs (nI n + 1).toNatClampNeg)]) (rest := [.int r]) O hH (c_X12_alike hc2) ml_L_90 ly_281 rfl rfl hl.1 rfl ⟨(Nat.le_of_ble_eq_true rfl), (Nat.le_of_ble_eq_true rfl)⟩ (Nat.le_of_ble_eq_true rfl) ⟨(Nat.le_of_ble_eq_true rfl), (Nat.le_of_ble_eq_true rfl)⟩ dL_law_796 (fun H locs hH => ?_)
  refine lv_icmp_eq (tgt := 1136) hx hb dL_law_799 (by decide) (fun _ => ?_) (fun c1 => absurd rfl c1)
  exact hnext D2 hI _ _ _ hH hl
set_option maxHeartbeats 4000000 in
theorem law_begin {G : va_G} {tA : Nat → ClassId} {E : Ex} {p : Program} {l : Launch} {e : Env} {s : State} {m : MethodId} {below : List Frame} {meth : Method} {c : Code} {b L : Nat} {xs : Nat → Int32} {Inv : Dm → Prop} (hL : L ≤ 4096) (O : Ok G tA s.heap.size E code "WordLearnerLaw" 4 p s m #[Value.ref b] c) (hX : va_X b L xs s s.heap) (hbl : b < s.heap.size) {n : Nat} (hn : n + 8 ≤ L) (hS : St_begin Inv) (hnext : ∀ D : Dm, Inv D → ∀ (H : Heap) (locs : List Loc) (ls : Array Slot), Hp G tA s.heap.size LAY D s.heap H locs → lv_has ls 4 [(0, .ref b), (1, .ref (s.heap.size + 0)), (2, .ref (s.heap.size + 281)), (3, .int (nI n))] → W p l e room_1 s m #[Value.ref b] below meth c H locs 318 92873 (lw_Z below #[Value.ref b] s) (F0 m 1136 ls [])) (D : Dm) (hI : Inv D) (H : Heap) (locs : List Loc) (ls : Array Slot) (hH : Hp G tA s.heap.size LAY D s.heap H locs) (hl : lv_has ls 4 [(0, .ref b), (1, .ref (s.heap.size + 0)), (2, .ref (s.heap.size + 281)), (3, .int (nI n))]) : W p l e room_1 s m #[Value.ref b] below meth c H locs 318 92873 (lw_Z below #[Value.ref b] s) (F0 m 804 ls []) := by
  obtain ⟨hx, hb, -, hown, hts, -⟩ := id O
  have hbA : ¬ (fun q : Nat => s.heap.size ≤ q) b := Nat.not_le.mpr hbl
  obtain ⟨r, D1, D2, hc1, hc2, hI⟩ := hS D hI 
  refine lv_aload_n hx hb dL_law_804 rfl (lv_at hl 1 rfl) ?_
  refine hl_call (As := []) (rest := []) O hH (c_X11_begin hc1) ml_L_91 ly_0 rfl rfl hl.1 rfl ⟨(Nat.le_of_ble_eq_true rfl), (Nat.le_of_ble_eq_true rfl)⟩ (Nat.le_of_ble_eq_true rfl) ⟨(Nat.le_of_ble_eq_true rfl), (Nat.le_of_ble_eq_true rfl)⟩ dL_law_805 (fun H locs hH => ?_)
  refine lv_aload_n hx hb dL_law_808 rfl (lv_at hl 2 rfl) ?_
  refine hl_call (As := []) (rest := [.int r]) O hH (c_X12_begin hc2) ml_L_94 ly_281 rfl rfl hl.1 rfl ⟨(Nat.le_of_ble_eq_true rfl), (Nat.le_of_ble_eq_true rfl)⟩ (Nat.le_of_ble_eq_true rfl) ⟨(Nat.le_of_ble_eq_true rfl), (Nat.le_of_ble_eq_true rfl)⟩ dL_law_809 (fun H locs hH => ?_)
  refine lv_icmp_eq (tgt := 1136) hx hb dL_law_812 (by decide) (fun _ => ?_) (fun c1 => absurd rfl c1)
  exact hnext D2 hI _ _ _ hH hl
set_option maxHeartbeats 4000000 in
theorem law_step {G : va_G} {tA : Nat → ClassId} {E : Ex} {p : Program} {l : Launch} {e : Env} {s : State} {m : MethodId} {below : List Frame} {meth : Method} {c : Code} {b L : Nat} {xs : Nat → Int32} {Inv : Dm → Prop} (hL : L ≤ 4096) (O : Ok G tA s.heap.size E code "WordLearnerLaw" 4 p s m #[Value.ref b] c) (hX : va_X b L xs s s.heap) (hbl : b < s.heap.size) {n : Nat} (hn : n + 8 ≤ L) (hS : St_step Inv) (hnext : ∀ D : Dm, Inv D → ∀ (H : Heap) (locs : List Loc) (ls : Array Slot), Hp G tA s.heap.size LAY D s.heap H locs → lv_has ls 4 [(0, .ref b), (1, .ref (s.heap.size + 0)), (2, .ref (s.heap.size + 281)), (3, .int (nI n))] → W p l e room_1 s m #[Value.ref b] below meth c H locs 318 92873 (lw_Z below #[Value.ref b] s) (F0 m 1136 ls [])) (D : Dm) (hI : Inv D) (H : Heap) (locs : List Loc) (ls : Array Slot) (hH : Hp G tA s.heap.size LAY D s.heap H locs) (hl : lv_has ls 4 [(0, .ref b), (1, .ref (s.heap.size + 0)), (2, .ref (s.heap.size + 281)), (3, .int (nI n))]) : W p l e room_1 s m #[Value.ref b] below meth c H locs 318 92873 (lw_Z below #[Value.ref b] s) (F0 m 817 ls []) := by
  obtain ⟨hx, hb, -, hown, hts, -⟩ := id O
  have hbA : ¬ (fun q : Nat => s.heap.size ≤ q) b := Nat.not_le.mpr hbl
  obtain ⟨r, D1, D2, hc1, hc2, hI⟩ := hS D hI 
  refine lv_aload_n hx hb dL_law_817 rfl (lv_at hl 1 rfl) ?_
  refine hl_call (As := []) (rest := []) O hH (c_X11_step hc1) ml_L_95 ly_0 rfl rfl hl.1 rfl ⟨(Nat.le_of_ble_eq_true rfl), (Nat.le_of_ble_eq_true rfl)⟩ (Nat.le_of_ble_eq_true rfl) ⟨(Nat.le_of_ble_eq_true rfl), (Nat.le_of_ble_eq_true rfl)⟩ dL_law_818 (fun H locs hH => ?_)
  refine lv_aload_n hx hb dL_law_821 rfl (lv_at hl 2 rfl) ?_
  refine hl_call (As := []) (rest := [.int r]) O hH (c_X12_step hc2) ml_L_98 ly_281 rfl rfl hl.1 rfl ⟨(Nat.le_of_ble_eq_true rfl), (Nat.le_of_ble_eq_true rfl)⟩ (Nat.le_of_ble_eq_true rfl) ⟨(Nat.le_of_ble_eq_true rfl), (Nat.le_of_ble_eq_true rfl)⟩ dL_law_822 (fun H locs hH => ?_)
  refine lv_icmp_eq (tgt := 1136) hx hb dL_law_825 (by decide) (fun _ => ?_) (fun c1 => absurd rfl c1)
  exact hnext D2 hI _ _ _ hH hl
set_option maxHeartbeats 4000000 in
theorem law_learn {G : va_G} {tA : Nat → ClassId} {E : Ex} {p : Program} {l : Launch} {e : Env} {s : State} {m : MethodId} {below : List Frame} {meth : Method} {c : Code} {b L : Nat} {xs : Nat → Int32} {Inv : Dm → Prop} (hL : L ≤ 4096) (O : Ok G tA s.heap.size E code "WordLearnerLaw" 4 p s m #[Value.ref b] c) (hX : va_X b L xs s s.heap) (hbl : b < s.heap.size) {n : Nat} (hn : n + 8 ≤ L) (hS : St_learn Inv) (hnext : ∀ D : Dm, Inv D → ∀ (H : Heap) (locs : List Loc) (ls : Array Slot), Hp G tA s.heap.size LAY D s.heap H locs → lv_has ls 4 [(0, .ref b), (1, .ref (s.heap.size + 0)), (2, .ref (s.heap.size + 281)), (3, .int (nI n))] → W p l e room_1 s m #[Value.ref b] below meth c H locs 318 92873 (lw_Z below #[Value.ref b] s) (F0 m 1136 ls [])) (D : Dm) (hI : Inv D) (H : Heap) (locs : List Loc) (ls : Array Slot) (hH : Hp G tA s.heap.size LAY D s.heap H locs) (hl : lv_has ls 4 [(0, .ref b), (1, .ref (s.heap.size + 0)), (2, .ref (s.heap.size + 281)), (3, .int (nI n))]) : W p l e room_1 s m #[Value.ref b] below meth c H locs 318 92873 (lw_Z below #[Value.ref b] s) (F0 m 830 ls []) := by
  obtain ⟨hx, hb, -, hown, hts, -⟩ := id O
  have hbA : ¬ (fun q : Nat => s.heap.size ≤ q) b := Nat.not_le.mpr hbl
  obtain ⟨r, D1, D2, hc1, hc2, hI⟩ := hS D hI 
  refine lv_aload_n hx hb dL_law_830 rfl (lv_at hl 1 rfl) ?_
  refine hl_call (As := []) (rest := []) O hH (c_X11_learn hc1) ml_L_99 ly_0 rfl rfl hl.1 rfl ⟨(Nat.le_of_ble_eq_true rfl), (Nat.le_of_ble_eq_true rfl)⟩ (Nat.le_of_ble_eq_true rfl) ⟨(Nat.le_of_ble_eq_true rfl), (Nat.le_of_ble_eq_true rfl)⟩ dL_law_831 (fun H locs hH => ?_)
  refine lv_aload_n hx hb dL_law_834 rfl (lv_at hl 2 rfl) ?_
  refine hl_call (As := []) (rest := [.int r]) O hH (c_X12_learn hc2) ml_L_102 ly_281 rfl rfl hl.1 rfl ⟨(Nat.le_of_ble_eq_true rfl), (Nat.le_of_ble_eq_true rfl)⟩ (Nat.le_of_ble_eq_true rfl) ⟨(Nat.le_of_ble_eq_true rfl), (Nat.le_of_ble_eq_true rfl)⟩ dL_law_835 (fun H locs hH => ?_)
  refine lv_icmp_eq (tgt := 1136) hx hb dL_law_838 (by decide) (fun _ => ?_) (fun c1 => absurd rfl c1)
  exact hnext D2 hI _ _ _ hH hl
set_option maxHeartbeats 4000000 in
theorem law_brief {G : va_G} {tA : Nat → ClassId} {E : Ex} {p : Program} {l : Launch} {e : Env} {s : State} {m : MethodId} {below : List Frame} {meth : Method} {c : Code} {b L : Nat} {xs : Nat → Int32} {Inv : Dm → Prop} (hL : L ≤ 4096) (O : Ok G tA s.heap.size E code "WordLearnerLaw" 4 p s m #[Value.ref b] c) (hX : va_X b L xs s s.heap) (hbl : b < s.heap.size) {n : Nat} (hn : n + 8 ≤ L) (hS : St_brief Inv) (hnext : ∀ D : Dm, Inv D → ∀ (H : Heap) (locs : List Loc) (ls : Array Slot), Hp G tA s.heap.size LAY D s.heap H locs → lv_has ls 4 [(0, .ref b), (1, .ref (s.heap.size + 0)), (2, .ref (s.heap.size + 281)), (3, .int (nI n))] → W p l e room_1 s m #[Value.ref b] below meth c H locs 318 92873 (lw_Z below #[Value.ref b] s) (F0 m 1136 ls [])) (D : Dm) (hI : Inv D) (H : Heap) (locs : List Loc) (ls : Array Slot) (hH : Hp G tA s.heap.size LAY D s.heap H locs) (hl : lv_has ls 4 [(0, .ref b), (1, .ref (s.heap.size + 0)), (2, .ref (s.heap.size + 281)), (3, .int (nI n))]) : W p l e room_1 s m #[Value.ref b] below meth c H locs 318 92873 (lw_Z below #[Value.ref b] s) (F0 m 843 ls []) := by
  obtain ⟨hx, hb, -, hown, hts, -⟩ := id O
  have hbA : ¬ (fun q : Nat => s.heap.size ≤ q) b := Nat.not_le.mpr hbl
  obtain ⟨r, D1, D2, hc1, hc2, hI⟩ := hS D hI (xs (nI n + 1).toNatClampNeg) (xs (nI n + 2).toNatClampNeg) (xs (nI n + 3).toNatClampNeg)
  refine lv_aload_n hx hb dL_law_843 rfl (lv_at hl 1 rfl) ?_
  refine lv_aload_n hx hb dL_law_844 rfl (lv_at hl 0 rfl) ?_
  refine lv_iload_n hx hb dL_law_845 rfl (lv_at hl 3 rfl) ?_
  refine lv_iconst (v := 1) hx hb dL_law_846 (by decide) ?_
  refine lv_iadd hx hb dL_law_847 ?_
  refine va_sld hx hb hX hbl hbA hH.2.2 (law_in hL (k := 1) rfl (by omega)) dL_law_848 ?_
  refine lv_aload_n hx hb dL_law_849 rfl (lv_at hl 0 rfl) ?_
  refine lv_iload_n hx hb dL_law_850 rfl (lv_at hl 3 rfl) ?_
  refine lv_iconst (v := 2) hx hb dL_law_851 (by decide) ?_
  refine lv_iadd hx hb dL_law_852 ?_
  refine va_sld hx hb hX hbl hbA hH.2.2 (law_in hL (k := 2) rfl (by omega)) dL_law_853 ?_
  refine lv_aload_n hx hb dL_law_854 rfl (lv_at hl 0 rfl) ?_
  refine lv_iload_n hx hb dL_law_855 rfl (lv_at hl 3 rfl) ?_
  refine lv_iconst (v := 3) hx hb dL_law_856 (by decide) ?_
  refine lv_iadd hx hb dL_law_857 ?_
  refine va_sld hx hb hX hbl hbA hH.2.2 (law_in hL (k := 3) rfl (by omega)) dL_law_858 ?_
  refine hl_call (As := [.int (xs (nI n + 1).toNatClampNeg), .int (xs (nI n + 2).toNatClampNeg), .int (xs (nI n + 3).toNatClampNeg)]) (rest := []) O hH (c_X11_brief hc1) ml_L_103 ly_0 rfl rfl hl.1 rfl ⟨(Nat.le_of_ble_eq_true rfl), (Nat.le_of_ble_eq_true rfl)⟩ (Nat.le_of_ble_eq_true rfl) ⟨(Nat.le_of_ble_eq_true rfl), (Nat.le_of_ble_eq_true rfl)⟩ dL_law_859 (fun H locs hH => ?_)
  refine lv_aload_n hx hb dL_law_862 rfl (lv_at hl 2 rfl) ?_
  refine lv_aload_n hx hb dL_law_863 rfl (lv_at hl 0 rfl) ?_
  refine lv_iload_n hx hb dL_law_864 rfl (lv_at hl 3 rfl) ?_
  refine lv_iconst (v := 1) hx hb dL_law_865 (by decide) ?_
  refine lv_iadd hx hb dL_law_866 ?_
  refine va_sld hx hb hX hbl hbA hH.2.2 (law_in hL (k := 1) rfl (by omega)) dL_law_867 ?_
  refine lv_aload_n hx hb dL_law_868 rfl (lv_at hl 0 rfl) ?_
  refine lv_iload_n hx hb dL_law_869 rfl (lv_at hl 3 rfl) ?_
  refine lv_iconst (v := 2) hx hb dL_law_870 (by decide) ?_
  refine lv_iadd hx hb dL_law_871 ?_
  refine va_sld hx hb hX hbl hbA hH.2.2 (law_in hL (k := 2) rfl (by omega)) dL_law_872 ?_
  refine lv_aload_n hx hb dL_law_873 rfl (lv_at hl 0 rfl) ?_
  refine lv_iload_n hx hb dL_law_874 rfl (lv_at hl 3 rfl) ?_
  refine lv_iconst (v := 3) hx hb dL_law_875 (by decide) ?_
  refine lv_iadd hx hb dL_law_876 ?_
  refine va_sld hx hb hX hbl hbA hH.2.2 (law_in hL (k := 3) rfl (by omega)) dL_law_877 ?_
  refine hl_call (As := [.int (xs (nI n + 1).toNatClampNeg), .int (xs (nI n + 2).toNatClampNeg), .int (xs (nI n + 3).toNatClampNeg)]) (rest := [.int r]) O hH (c_X12_brief hc2) ml_L_106 ly_281 rfl rfl hl.1 rfl ⟨(Nat.le_of_ble_eq_true rfl), (Nat.le_of_ble_eq_true rfl)⟩ (Nat.le_of_ble_eq_true rfl) ⟨(Nat.le_of_ble_eq_true rfl), (Nat.le_of_ble_eq_true rfl)⟩ dL_law_878 (fun H locs hH => ?_)
  refine lv_icmp_eq (tgt := 1136) hx hb dL_law_881 (by decide) (fun _ => ?_) (fun c1 => absurd rfl c1)
  exact hnext D2 hI _ _ _ hH hl
set_option maxHeartbeats 4000000 in
theorem law_test {G : va_G} {tA : Nat → ClassId} {E : Ex} {p : Program} {l : Launch} {e : Env} {s : State} {m : MethodId} {below : List Frame} {meth : Method} {c : Code} {b L : Nat} {xs : Nat → Int32} {Inv : Dm → Prop} (hL : L ≤ 4096) (O : Ok G tA s.heap.size E code "WordLearnerLaw" 4 p s m #[Value.ref b] c) (hX : va_X b L xs s s.heap) (hbl : b < s.heap.size) {n : Nat} (hn : n + 8 ≤ L) (hS : St_test Inv) (hnext : ∀ D : Dm, Inv D → ∀ (H : Heap) (locs : List Loc) (ls : Array Slot), Hp G tA s.heap.size LAY D s.heap H locs → lv_has ls 4 [(0, .ref b), (1, .ref (s.heap.size + 0)), (2, .ref (s.heap.size + 281)), (3, .int (nI n))] → W p l e room_1 s m #[Value.ref b] below meth c H locs 318 92873 (lw_Z below #[Value.ref b] s) (F0 m 1136 ls [])) (D : Dm) (hI : Inv D) (H : Heap) (locs : List Loc) (ls : Array Slot) (hH : Hp G tA s.heap.size LAY D s.heap H locs) (hl : lv_has ls 4 [(0, .ref b), (1, .ref (s.heap.size + 0)), (2, .ref (s.heap.size + 281)), (3, .int (nI n))]) : W p l e room_1 s m #[Value.ref b] below meth c H locs 318 92873 (lw_Z below #[Value.ref b] s) (F0 m 886 ls []) := by
  obtain ⟨hx, hb, -, hown, hts, -⟩ := id O
  have hbA : ¬ (fun q : Nat => s.heap.size ≤ q) b := Nat.not_le.mpr hbl
  obtain ⟨r, D1, D2, hc1, hc2, hI⟩ := hS D hI (xs (nI n + 1).toNatClampNeg) (xs (nI n + 2).toNatClampNeg) (xs (nI n + 3).toNatClampNeg)
  refine lv_aload_n hx hb dL_law_886 rfl (lv_at hl 1 rfl) ?_
  refine lv_aload_n hx hb dL_law_887 rfl (lv_at hl 0 rfl) ?_
  refine lv_iload_n hx hb dL_law_888 rfl (lv_at hl 3 rfl) ?_
  refine lv_iconst (v := 1) hx hb dL_law_889 (by decide) ?_
  refine lv_iadd hx hb dL_law_890 ?_
  refine va_sld hx hb hX hbl hbA hH.2.2 (law_in hL (k := 1) rfl (by omega)) dL_law_891 ?_
  refine lv_aload_n hx hb dL_law_892 rfl (lv_at hl 0 rfl) ?_
  refine lv_iload_n hx hb dL_law_893 rfl (lv_at hl 3 rfl) ?_
  refine lv_iconst (v := 2) hx hb dL_law_894 (by decide) ?_
  refine lv_iadd hx hb dL_law_895 ?_
  refine va_sld hx hb hX hbl hbA hH.2.2 (law_in hL (k := 2) rfl (by omega)) dL_law_896 ?_
  refine lv_aload_n hx hb dL_law_897 rfl (lv_at hl 0 rfl) ?_
  refine lv_iload_n hx hb dL_law_898 rfl (lv_at hl 3 rfl) ?_
  refine lv_iconst (v := 3) hx hb dL_law_899 (by decide) ?_
  refine lv_iadd hx hb dL_law_900 ?_
  refine va_sld hx hb hX hbl hbA hH.2.2 (law_in hL (k := 3) rfl (by omega)) dL_law_901 ?_
  refine hl_call (As := [.int (xs (nI n + 1).toNatClampNeg), .int (xs (nI n + 2).toNatClampNeg), .int (xs (nI n + 3).toNatClampNeg)]) (rest := []) O hH (c_X11_test hc1) ml_L_107 ly_0 rfl rfl hl.1 rfl ⟨(Nat.le_of_ble_eq_true rfl), (Nat.le_of_ble_eq_true rfl)⟩ (Nat.le_of_ble_eq_true rfl) ⟨(Nat.le_of_ble_eq_true rfl), (Nat.le_of_ble_eq_true rfl)⟩ dL_law_902 (fun H locs hH => ?_)
  refine lv_aload_n hx hb dL_law_905 rfl (lv_at hl 2 rfl) ?_
  refine lv_aload_n hx hb dL_law_906 rfl (lv_at hl 0 rfl) ?_
  refine lv_iload_n hx hb dL_law_907 rfl (lv_at hl 3 rfl) ?_
  refine lv_iconst (v := 1) hx hb dL_law_908 (by decide) ?_
  refine lv_iadd hx hb dL_law_909 ?_
  refine va_sld hx hb hX hbl hbA hH.2.2 (law_in hL (k := 1) rfl (by omega)) dL_law_910 ?_
  refine lv_aload_n hx hb dL_law_911 rfl (lv_at hl 0 rfl) ?_
  refine lv_iload_n hx hb dL_law_912 rfl (lv_at hl 3 rfl) ?_
  refine lv_iconst (v := 2) hx hb dL_law_913 (by decide) ?_
  refine lv_iadd hx hb dL_law_914 ?_
  refine va_sld hx hb hX hbl hbA hH.2.2 (law_in hL (k := 2) rfl (by omega)) dL_law_915 ?_
  refine lv_aload_n hx hb dL_law_916 rfl (lv_at hl 0 rfl) ?_
  refine lv_iload_n hx hb dL_law_917 rfl (lv_at hl 3 rfl) ?_
  refine lv_iconst (v := 3) hx hb dL_law_918 (by decide) ?_
  refine lv_iadd hx hb dL_law_919 ?_
  refine va_sld hx hb hX hbl hbA hH.2.2 (law_in hL (k := 3) rfl (by omega)) dL_law_920 ?_
  refine hl_call (As := [.int (xs (nI n + 1).toNatClampNeg), .int (xs (nI n + 2).toNatClampNeg), .int (xs (nI n + 3).toNatClampNeg)]) (rest := [.int r]) O hH (c_X12_test hc2) ml_L_110 ly_281 rfl rfl hl.1 rfl ⟨(Nat.le_of_ble_eq_true rfl), (Nat.le_of_ble_eq_true rfl)⟩ (Nat.le_of_ble_eq_true rfl) ⟨(Nat.le_of_ble_eq_true rfl), (Nat.le_of_ble_eq_true rfl)⟩ dL_law_921 (fun H locs hH => ?_)
  refine lv_icmp_eq (tgt := 1136) hx hb dL_law_924 (by decide) (fun _ => ?_) (fun c1 => absurd rfl c1)
  exact hnext D2 hI _ _ _ hH hl
set_option maxHeartbeats 4000000 in
theorem law_registers {G : va_G} {tA : Nat → ClassId} {E : Ex} {p : Program} {l : Launch} {e : Env} {s : State} {m : MethodId} {below : List Frame} {meth : Method} {c : Code} {b L : Nat} {xs : Nat → Int32} {Inv : Dm → Prop} (hL : L ≤ 4096) (O : Ok G tA s.heap.size E code "WordLearnerLaw" 4 p s m #[Value.ref b] c) (hX : va_X b L xs s s.heap) (hbl : b < s.heap.size) {n : Nat} (hn : n + 8 ≤ L) (hS : St_registers Inv) (hnext : ∀ D : Dm, Inv D → ∀ (H : Heap) (locs : List Loc) (ls : Array Slot), Hp G tA s.heap.size LAY D s.heap H locs → lv_has ls 4 [(0, .ref b), (1, .ref (s.heap.size + 0)), (2, .ref (s.heap.size + 281)), (3, .int (nI n))] → W p l e room_1 s m #[Value.ref b] below meth c H locs 318 92873 (lw_Z below #[Value.ref b] s) (F0 m 1136 ls [])) (D : Dm) (hI : Inv D) (H : Heap) (locs : List Loc) (ls : Array Slot) (hH : Hp G tA s.heap.size LAY D s.heap H locs) (hl : lv_has ls 4 [(0, .ref b), (1, .ref (s.heap.size + 0)), (2, .ref (s.heap.size + 281)), (3, .int (nI n))]) : W p l e room_1 s m #[Value.ref b] below meth c H locs 318 92873 (lw_Z below #[Value.ref b] s) (F0 m 929 ls []) := by
  obtain ⟨hx, hb, -, hown, hts, -⟩ := id O
  have hbA : ¬ (fun q : Nat => s.heap.size ≤ q) b := Nat.not_le.mpr hbl
  obtain ⟨r, D1, D2, hc1, hc2, hI⟩ := hS D hI (xs (nI n + 1).toNatClampNeg)
  refine lv_aload_n hx hb dL_law_929 rfl (lv_at hl 1 rfl) ?_
  refine lv_aload_n hx hb dL_law_930 rfl (lv_at hl 0 rfl) ?_
  refine lv_iload_n hx hb dL_law_931 rfl (lv_at hl 3 rfl) ?_
  refine lv_iconst (v := 1) hx hb dL_law_932 (by decide) ?_
  refine lv_iadd hx hb dL_law_933 ?_
  refine va_sld hx hb hX hbl hbA hH.2.2 (law_in hL (k := 1) rfl (by omega)) dL_law_934 ?_
  refine hl_call (As := [.int (xs (nI n + 1).toNatClampNeg)]) (rest := []) O hH (c_X11_registers hc1) ml_L_111 ly_0 rfl rfl hl.1 rfl ⟨(Nat.le_of_ble_eq_true rfl), (Nat.le_of_ble_eq_true rfl)⟩ (Nat.le_of_ble_eq_true rfl) ⟨(Nat.le_of_ble_eq_true rfl), (Nat.le_of_ble_eq_true rfl)⟩ dL_law_935 (fun H locs hH => ?_)
  refine lv_aload_n hx hb dL_law_938 rfl (lv_at hl 2 rfl) ?_
  refine lv_aload_n hx hb dL_law_939 rfl (lv_at hl 0 rfl) ?_
  refine lv_iload_n hx hb dL_law_940 rfl (lv_at hl 3 rfl) ?_
  refine lv_iconst (v := 1) hx hb dL_law_941 (by decide) ?_
  refine lv_iadd hx hb dL_law_942 ?_
  refine va_sld hx hb hX hbl hbA hH.2.2 (law_in hL (k := 1) rfl (by omega)) dL_law_943 ?_
  refine hl_call (As := [.int (xs (nI n + 1).toNatClampNeg)]) (rest := [.int r]) O hH (c_X12_registers hc2) ml_L_114 ly_281 rfl rfl hl.1 rfl ⟨(Nat.le_of_ble_eq_true rfl), (Nat.le_of_ble_eq_true rfl)⟩ (Nat.le_of_ble_eq_true rfl) ⟨(Nat.le_of_ble_eq_true rfl), (Nat.le_of_ble_eq_true rfl)⟩ dL_law_944 (fun H locs hH => ?_)
  refine lv_icmp_eq (tgt := 1136) hx hb dL_law_947 (by decide) (fun _ => ?_) (fun c1 => absurd rfl c1)
  exact hnext D2 hI _ _ _ hH hl
set_option maxHeartbeats 4000000 in
theorem law_goes {G : va_G} {tA : Nat → ClassId} {E : Ex} {p : Program} {l : Launch} {e : Env} {s : State} {m : MethodId} {below : List Frame} {meth : Method} {c : Code} {b L : Nat} {xs : Nat → Int32} {Inv : Dm → Prop} (hL : L ≤ 4096) (O : Ok G tA s.heap.size E code "WordLearnerLaw" 4 p s m #[Value.ref b] c) (hX : va_X b L xs s s.heap) (hbl : b < s.heap.size) {n : Nat} (hn : n + 8 ≤ L) (hS : St_goes Inv) (hnext : ∀ D : Dm, Inv D → ∀ (H : Heap) (locs : List Loc) (ls : Array Slot), Hp G tA s.heap.size LAY D s.heap H locs → lv_has ls 4 [(0, .ref b), (1, .ref (s.heap.size + 0)), (2, .ref (s.heap.size + 281)), (3, .int (nI n))] → W p l e room_1 s m #[Value.ref b] below meth c H locs 318 92873 (lw_Z below #[Value.ref b] s) (F0 m 1136 ls [])) (D : Dm) (hI : Inv D) (H : Heap) (locs : List Loc) (ls : Array Slot) (hH : Hp G tA s.heap.size LAY D s.heap H locs) (hl : lv_has ls 4 [(0, .ref b), (1, .ref (s.heap.size + 0)), (2, .ref (s.heap.size + 281)), (3, .int (nI n))]) : W p l e room_1 s m #[Value.ref b] below meth c H locs 318 92873 (lw_Z below #[Value.ref b] s) (F0 m 952 ls []) := by
  obtain ⟨hx, hb, -, hown, hts, -⟩ := id O
  have hbA : ¬ (fun q : Nat => s.heap.size ≤ q) b := Nat.not_le.mpr hbl
  obtain ⟨r, D1, D2, hc1, hc2, hI⟩ := hS D hI (xs (nI n + 1).toNatClampNeg) (xs (nI n + 2).toNatClampNeg) (xs (nI n + 3).toNatClampNeg)
  refine lv_aload_n hx hb dL_law_952 rfl (lv_at hl 1 rfl) ?_
  refine lv_aload_n hx hb dL_law_953 rfl (lv_at hl 0 rfl) ?_
  refine lv_iload_n hx hb dL_law_954 rfl (lv_at hl 3 rfl) ?_
  refine lv_iconst (v := 1) hx hb dL_law_955 (by decide) ?_
  refine lv_iadd hx hb dL_law_956 ?_
  refine va_sld hx hb hX hbl hbA hH.2.2 (law_in hL (k := 1) rfl (by omega)) dL_law_957 ?_
  refine lv_aload_n hx hb dL_law_958 rfl (lv_at hl 0 rfl) ?_
  refine lv_iload_n hx hb dL_law_959 rfl (lv_at hl 3 rfl) ?_
  refine lv_iconst (v := 2) hx hb dL_law_960 (by decide) ?_
  refine lv_iadd hx hb dL_law_961 ?_
  refine va_sld hx hb hX hbl hbA hH.2.2 (law_in hL (k := 2) rfl (by omega)) dL_law_962 ?_
  refine lv_aload_n hx hb dL_law_963 rfl (lv_at hl 0 rfl) ?_
  refine lv_iload_n hx hb dL_law_964 rfl (lv_at hl 3 rfl) ?_
  refine lv_iconst (v := 3) hx hb dL_law_965 (by decide) ?_
  refine lv_iadd hx hb dL_law_966 ?_
  refine va_sld hx hb hX hbl hbA hH.2.2 (law_in hL (k := 3) rfl (by omega)) dL_law_967 ?_
  refine hl_call (As := [.int (xs (nI n + 1).toNatClampNeg), .int (xs (nI n + 2).toNatClampNeg), .int (xs (nI n + 3).toNatClampNeg)]) (rest := []) O hH (c_X11_goes hc1) ml_L_115 ly_0 rfl rfl hl.1 rfl ⟨(Nat.le_of_ble_eq_true rfl), (Nat.le_of_ble_eq_true rfl)⟩ (Nat.le_of_ble_eq_true rfl) ⟨(Nat.le_of_ble_eq_true rfl), (Nat.le_of_ble_eq_true rfl)⟩ dL_law_968 (fun H locs hH => ?_)
  refine lv_aload_n hx hb dL_law_971 rfl (lv_at hl 2 rfl) ?_
  refine lv_aload_n hx hb dL_law_972 rfl (lv_at hl 0 rfl) ?_
  refine lv_iload_n hx hb dL_law_973 rfl (lv_at hl 3 rfl) ?_
  refine lv_iconst (v := 1) hx hb dL_law_974 (by decide) ?_
  refine lv_iadd hx hb dL_law_975 ?_
  refine va_sld hx hb hX hbl hbA hH.2.2 (law_in hL (k := 1) rfl (by omega)) dL_law_976 ?_
  refine lv_aload_n hx hb dL_law_977 rfl (lv_at hl 0 rfl) ?_
  refine lv_iload_n hx hb dL_law_978 rfl (lv_at hl 3 rfl) ?_
  refine lv_iconst (v := 2) hx hb dL_law_979 (by decide) ?_
  refine lv_iadd hx hb dL_law_980 ?_
  refine va_sld hx hb hX hbl hbA hH.2.2 (law_in hL (k := 2) rfl (by omega)) dL_law_981 ?_
  refine lv_aload_n hx hb dL_law_982 rfl (lv_at hl 0 rfl) ?_
  refine lv_iload_n hx hb dL_law_983 rfl (lv_at hl 3 rfl) ?_
  refine lv_iconst (v := 3) hx hb dL_law_984 (by decide) ?_
  refine lv_iadd hx hb dL_law_985 ?_
  refine va_sld hx hb hX hbl hbA hH.2.2 (law_in hL (k := 3) rfl (by omega)) dL_law_986 ?_
  refine hl_call (As := [.int (xs (nI n + 1).toNatClampNeg), .int (xs (nI n + 2).toNatClampNeg), .int (xs (nI n + 3).toNatClampNeg)]) (rest := [.int r]) O hH (c_X12_goes hc2) ml_L_118 ly_281 rfl rfl hl.1 rfl ⟨(Nat.le_of_ble_eq_true rfl), (Nat.le_of_ble_eq_true rfl)⟩ (Nat.le_of_ble_eq_true rfl) ⟨(Nat.le_of_ble_eq_true rfl), (Nat.le_of_ble_eq_true rfl)⟩ dL_law_987 (fun H locs hH => ?_)
  refine lv_icmp_eq (tgt := 1136) hx hb dL_law_990 (by decide) (fun _ => ?_) (fun c1 => absurd rfl c1)
  exact hnext D2 hI _ _ _ hH hl
set_option maxHeartbeats 4000000 in
theorem law_stands {G : va_G} {tA : Nat → ClassId} {E : Ex} {p : Program} {l : Launch} {e : Env} {s : State} {m : MethodId} {below : List Frame} {meth : Method} {c : Code} {b L : Nat} {xs : Nat → Int32} {Inv : Dm → Prop} (hL : L ≤ 4096) (O : Ok G tA s.heap.size E code "WordLearnerLaw" 4 p s m #[Value.ref b] c) (hX : va_X b L xs s s.heap) (hbl : b < s.heap.size) {n : Nat} (hn : n + 8 ≤ L) (hS : St_stands Inv) (hnext : ∀ D : Dm, Inv D → ∀ (H : Heap) (locs : List Loc) (ls : Array Slot), Hp G tA s.heap.size LAY D s.heap H locs → lv_has ls 4 [(0, .ref b), (1, .ref (s.heap.size + 0)), (2, .ref (s.heap.size + 281)), (3, .int (nI n))] → W p l e room_1 s m #[Value.ref b] below meth c H locs 318 92873 (lw_Z below #[Value.ref b] s) (F0 m 1136 ls [])) (D : Dm) (hI : Inv D) (H : Heap) (locs : List Loc) (ls : Array Slot) (hH : Hp G tA s.heap.size LAY D s.heap H locs) (hl : lv_has ls 4 [(0, .ref b), (1, .ref (s.heap.size + 0)), (2, .ref (s.heap.size + 281)), (3, .int (nI n))]) : W p l e room_1 s m #[Value.ref b] below meth c H locs 318 92873 (lw_Z below #[Value.ref b] s) (F0 m 995 ls []) := by
  obtain ⟨hx, hb, -, hown, hts, -⟩ := id O
  have hbA : ¬ (fun q : Nat => s.heap.size ≤ q) b := Nat.not_le.mpr hbl
  obtain ⟨r, D1, D2, hc1, hc2, hI⟩ := hS D hI 
  refine lv_aload_n hx hb dL_law_995 rfl (lv_at hl 1 rfl) ?_
  refine hl_call (As := []) (rest := []) O hH (c_X11_stands hc1) ml_L_119 ly_0 rfl rfl hl.1 rfl ⟨(Nat.le_of_ble_eq_true rfl), (Nat.le_of_ble_eq_true rfl)⟩ (Nat.le_of_ble_eq_true rfl) ⟨(Nat.le_of_ble_eq_true rfl), (Nat.le_of_ble_eq_true rfl)⟩ dL_law_996 (fun H locs hH => ?_)
  refine lv_aload_n hx hb dL_law_999 rfl (lv_at hl 2 rfl) ?_
  refine hl_call (As := []) (rest := [.int r]) O hH (c_X12_stands hc2) ml_L_122 ly_281 rfl rfl hl.1 rfl ⟨(Nat.le_of_ble_eq_true rfl), (Nat.le_of_ble_eq_true rfl)⟩ (Nat.le_of_ble_eq_true rfl) ⟨(Nat.le_of_ble_eq_true rfl), (Nat.le_of_ble_eq_true rfl)⟩ dL_law_1000 (fun H locs hH => ?_)
  refine lv_icmp_eq (tgt := 1136) hx hb dL_law_1003 (by decide) (fun _ => ?_) (fun c1 => absurd rfl c1)
  exact hnext D2 hI _ _ _ hH hl
set_option maxHeartbeats 4000000 in
theorem law_guess {G : va_G} {tA : Nat → ClassId} {E : Ex} {p : Program} {l : Launch} {e : Env} {s : State} {m : MethodId} {below : List Frame} {meth : Method} {c : Code} {b L : Nat} {xs : Nat → Int32} {Inv : Dm → Prop} (hL : L ≤ 4096) (O : Ok G tA s.heap.size E code "WordLearnerLaw" 4 p s m #[Value.ref b] c) (hX : va_X b L xs s s.heap) (hbl : b < s.heap.size) {n : Nat} (hn : n + 8 ≤ L) (hS : St_guess Inv) (hnext : ∀ D : Dm, Inv D → ∀ (H : Heap) (locs : List Loc) (ls : Array Slot), Hp G tA s.heap.size LAY D s.heap H locs → lv_has ls 4 [(0, .ref b), (1, .ref (s.heap.size + 0)), (2, .ref (s.heap.size + 281)), (3, .int (nI n))] → W p l e room_1 s m #[Value.ref b] below meth c H locs 318 92873 (lw_Z below #[Value.ref b] s) (F0 m 1136 ls [])) (D : Dm) (hI : Inv D) (H : Heap) (locs : List Loc) (ls : Array Slot) (hH : Hp G tA s.heap.size LAY D s.heap H locs) (hl : lv_has ls 4 [(0, .ref b), (1, .ref (s.heap.size + 0)), (2, .ref (s.heap.size + 281)), (3, .int (nI n))]) : W p l e room_1 s m #[Value.ref b] below meth c H locs 318 92873 (lw_Z below #[Value.ref b] s) (F0 m 1008 ls []) := by
  obtain ⟨hx, hb, -, hown, hts, -⟩ := id O
  have hbA : ¬ (fun q : Nat => s.heap.size ≤ q) b := Nat.not_le.mpr hbl
  obtain ⟨r, D1, D2, hc1, hc2, hI⟩ := hS D hI 
  refine lv_aload_n hx hb dL_law_1008 rfl (lv_at hl 1 rfl) ?_
  refine hl_call (As := []) (rest := []) O hH (c_X11_guess hc1) ml_L_123 ly_0 rfl rfl hl.1 rfl ⟨(Nat.le_of_ble_eq_true rfl), (Nat.le_of_ble_eq_true rfl)⟩ (Nat.le_of_ble_eq_true rfl) ⟨(Nat.le_of_ble_eq_true rfl), (Nat.le_of_ble_eq_true rfl)⟩ dL_law_1009 (fun H locs hH => ?_)
  refine lv_aload_n hx hb dL_law_1012 rfl (lv_at hl 2 rfl) ?_
  refine hl_call (As := []) (rest := [.int r]) O hH (c_X12_guess hc2) ml_L_126 ly_281 rfl rfl hl.1 rfl ⟨(Nat.le_of_ble_eq_true rfl), (Nat.le_of_ble_eq_true rfl)⟩ (Nat.le_of_ble_eq_true rfl) ⟨(Nat.le_of_ble_eq_true rfl), (Nat.le_of_ble_eq_true rfl)⟩ dL_law_1013 (fun H locs hH => ?_)
  refine lv_icmp_eq (tgt := 1136) hx hb dL_law_1016 (by decide) (fun _ => ?_) (fun c1 => absurd rfl c1)
  exact hnext D2 hI _ _ _ hH hl
set_option maxHeartbeats 4000000 in
theorem law_guessed {G : va_G} {tA : Nat → ClassId} {E : Ex} {p : Program} {l : Launch} {e : Env} {s : State} {m : MethodId} {below : List Frame} {meth : Method} {c : Code} {b L : Nat} {xs : Nat → Int32} {Inv : Dm → Prop} (hL : L ≤ 4096) (O : Ok G tA s.heap.size E code "WordLearnerLaw" 4 p s m #[Value.ref b] c) (hX : va_X b L xs s s.heap) (hbl : b < s.heap.size) {n : Nat} (hn : n + 8 ≤ L) (hS : St_guessed Inv) (hnext : ∀ D : Dm, Inv D → ∀ (H : Heap) (locs : List Loc) (ls : Array Slot), Hp G tA s.heap.size LAY D s.heap H locs → lv_has ls 4 [(0, .ref b), (1, .ref (s.heap.size + 0)), (2, .ref (s.heap.size + 281)), (3, .int (nI n))] → W p l e room_1 s m #[Value.ref b] below meth c H locs 318 92873 (lw_Z below #[Value.ref b] s) (F0 m 1136 ls [])) (D : Dm) (hI : Inv D) (H : Heap) (locs : List Loc) (ls : Array Slot) (hH : Hp G tA s.heap.size LAY D s.heap H locs) (hl : lv_has ls 4 [(0, .ref b), (1, .ref (s.heap.size + 0)), (2, .ref (s.heap.size + 281)), (3, .int (nI n))]) : W p l e room_1 s m #[Value.ref b] below meth c H locs 318 92873 (lw_Z below #[Value.ref b] s) (F0 m 1021 ls []) := by
  obtain ⟨hx, hb, -, hown, hts, -⟩ := id O
  have hbA : ¬ (fun q : Nat => s.heap.size ≤ q) b := Nat.not_le.mpr hbl
  obtain ⟨r, D1, D2, hc1, hc2, hI⟩ := hS D hI (xs (nI n + 1).toNatClampNeg) (xs (nI n + 2).toNatClampNeg)
  refine lv_aload_n hx hb dL_law_1021 rfl (lv_at hl 1 rfl) ?_
  refine lv_aload_n hx hb dL_law_1022 rfl (lv_at hl 0 rfl) ?_
  refine lv_iload_n hx hb dL_law_1023 rfl (lv_at hl 3 rfl) ?_
  refine lv_iconst (v := 1) hx hb dL_law_1024 (by decide) ?_
  refine lv_iadd hx hb dL_law_1025 ?_
  refine va_sld hx hb hX hbl hbA hH.2.2 (law_in hL (k := 1) rfl (by omega)) dL_law_1026 ?_
  refine lv_aload_n hx hb dL_law_1027 rfl (lv_at hl 0 rfl) ?_
  refine lv_iload_n hx hb dL_law_1028 rfl (lv_at hl 3 rfl) ?_
  refine lv_iconst (v := 2) hx hb dL_law_1029 (by decide) ?_
  refine lv_iadd hx hb dL_law_1030 ?_
  refine va_sld hx hb hX hbl hbA hH.2.2 (law_in hL (k := 2) rfl (by omega)) dL_law_1031 ?_
  refine hl_call (As := [.int (xs (nI n + 1).toNatClampNeg), .int (xs (nI n + 2).toNatClampNeg)]) (rest := []) O hH (c_X11_guessed hc1) ml_L_127 ly_0 rfl rfl hl.1 rfl ⟨(Nat.le_of_ble_eq_true rfl), (Nat.le_of_ble_eq_true rfl)⟩ (Nat.le_of_ble_eq_true rfl) ⟨(Nat.le_of_ble_eq_true rfl), (Nat.le_of_ble_eq_true rfl)⟩ dL_law_1032 (fun H locs hH => ?_)
  refine lv_aload_n hx hb dL_law_1035 rfl (lv_at hl 2 rfl) ?_
  refine lv_aload_n hx hb dL_law_1036 rfl (lv_at hl 0 rfl) ?_
  refine lv_iload_n hx hb dL_law_1037 rfl (lv_at hl 3 rfl) ?_
  refine lv_iconst (v := 1) hx hb dL_law_1038 (by decide) ?_
  refine lv_iadd hx hb dL_law_1039 ?_
  refine va_sld hx hb hX hbl hbA hH.2.2 (law_in hL (k := 1) rfl (by omega)) dL_law_1040 ?_
  refine lv_aload_n hx hb dL_law_1041 rfl (lv_at hl 0 rfl) ?_
  refine lv_iload_n hx hb dL_law_1042 rfl (lv_at hl 3 rfl) ?_
  refine lv_iconst (v := 2) hx hb dL_law_1043 (by decide) ?_
  refine lv_iadd hx hb dL_law_1044 ?_
  refine va_sld hx hb hX hbl hbA hH.2.2 (law_in hL (k := 2) rfl (by omega)) dL_law_1045 ?_
  refine hl_call (As := [.int (xs (nI n + 1).toNatClampNeg), .int (xs (nI n + 2).toNatClampNeg)]) (rest := [.int r]) O hH (c_X12_guessed hc2) ml_L_130 ly_281 rfl rfl hl.1 rfl ⟨(Nat.le_of_ble_eq_true rfl), (Nat.le_of_ble_eq_true rfl)⟩ (Nat.le_of_ble_eq_true rfl) ⟨(Nat.le_of_ble_eq_true rfl), (Nat.le_of_ble_eq_true rfl)⟩ dL_law_1046 (fun H locs hH => ?_)
  refine lv_icmp_eq (tgt := 1136) hx hb dL_law_1049 (by decide) (fun _ => ?_) (fun c1 => absurd rfl c1)
  exact hnext D2 hI _ _ _ hH hl
set_option maxHeartbeats 4000000 in
theorem law_refutes {G : va_G} {tA : Nat → ClassId} {E : Ex} {p : Program} {l : Launch} {e : Env} {s : State} {m : MethodId} {below : List Frame} {meth : Method} {c : Code} {b L : Nat} {xs : Nat → Int32} {Inv : Dm → Prop} (hL : L ≤ 4096) (O : Ok G tA s.heap.size E code "WordLearnerLaw" 4 p s m #[Value.ref b] c) (hX : va_X b L xs s s.heap) (hbl : b < s.heap.size) {n : Nat} (hn : n + 8 ≤ L) (hS : St_refutes Inv) (hnext : ∀ D : Dm, Inv D → ∀ (H : Heap) (locs : List Loc) (ls : Array Slot), Hp G tA s.heap.size LAY D s.heap H locs → lv_has ls 4 [(0, .ref b), (1, .ref (s.heap.size + 0)), (2, .ref (s.heap.size + 281)), (3, .int (nI n))] → W p l e room_1 s m #[Value.ref b] below meth c H locs 318 92873 (lw_Z below #[Value.ref b] s) (F0 m 1136 ls [])) (D : Dm) (hI : Inv D) (H : Heap) (locs : List Loc) (ls : Array Slot) (hH : Hp G tA s.heap.size LAY D s.heap H locs) (hl : lv_has ls 4 [(0, .ref b), (1, .ref (s.heap.size + 0)), (2, .ref (s.heap.size + 281)), (3, .int (nI n))]) : W p l e room_1 s m #[Value.ref b] below meth c H locs 318 92873 (lw_Z below #[Value.ref b] s) (F0 m 1054 ls []) := by
  obtain ⟨hx, hb, -, hown, hts, -⟩ := id O
  have hbA : ¬ (fun q : Nat => s.heap.size ≤ q) b := Nat.not_le.mpr hbl
  obtain ⟨r, D1, D2, hc1, hc2, hI⟩ := hS D hI (xs (nI n + 1).toNatClampNeg) (xs (nI n + 2).toNatClampNeg)
  refine lv_aload_n hx hb dL_law_1054 rfl (lv_at hl 1 rfl) ?_
  refine lv_aload_n hx hb dL_law_1055 rfl (lv_at hl 0 rfl) ?_
  refine lv_iload_n hx hb dL_law_1056 rfl (lv_at hl 3 rfl) ?_
  refine lv_iconst (v := 1) hx hb dL_law_1057 (by decide) ?_
  refine lv_iadd hx hb dL_law_1058 ?_
  refine va_sld hx hb hX hbl hbA hH.2.2 (law_in hL (k := 1) rfl (by omega)) dL_law_1059 ?_
  refine lv_aload_n hx hb dL_law_1060 rfl (lv_at hl 0 rfl) ?_
  refine lv_iload_n hx hb dL_law_1061 rfl (lv_at hl 3 rfl) ?_
  refine lv_iconst (v := 2) hx hb dL_law_1062 (by decide) ?_
  refine lv_iadd hx hb dL_law_1063 ?_
  refine va_sld hx hb hX hbl hbA hH.2.2 (law_in hL (k := 2) rfl (by omega)) dL_law_1064 ?_
  refine hl_call (As := [.int (xs (nI n + 1).toNatClampNeg), .int (xs (nI n + 2).toNatClampNeg)]) (rest := []) O hH (c_X11_refutes hc1) ml_L_131 ly_0 rfl rfl hl.1 rfl ⟨(Nat.le_of_ble_eq_true rfl), (Nat.le_of_ble_eq_true rfl)⟩ (Nat.le_of_ble_eq_true rfl) ⟨(Nat.le_of_ble_eq_true rfl), (Nat.le_of_ble_eq_true rfl)⟩ dL_law_1065 (fun H locs hH => ?_)
  refine lv_aload_n hx hb dL_law_1068 rfl (lv_at hl 2 rfl) ?_
  refine lv_aload_n hx hb dL_law_1069 rfl (lv_at hl 0 rfl) ?_
  refine lv_iload_n hx hb dL_law_1070 rfl (lv_at hl 3 rfl) ?_
  refine lv_iconst (v := 1) hx hb dL_law_1071 (by decide) ?_
  refine lv_iadd hx hb dL_law_1072 ?_
  refine va_sld hx hb hX hbl hbA hH.2.2 (law_in hL (k := 1) rfl (by omega)) dL_law_1073 ?_
  refine lv_aload_n hx hb dL_law_1074 rfl (lv_at hl 0 rfl) ?_
  refine lv_iload_n hx hb dL_law_1075 rfl (lv_at hl 3 rfl) ?_
  refine lv_iconst (v := 2) hx hb dL_law_1076 (by decide) ?_
  refine lv_iadd hx hb dL_law_1077 ?_
  refine va_sld hx hb hX hbl hbA hH.2.2 (law_in hL (k := 2) rfl (by omega)) dL_law_1078 ?_
  refine hl_call (As := [.int (xs (nI n + 1).toNatClampNeg), .int (xs (nI n + 2).toNatClampNeg)]) (rest := [.int r]) O hH (c_X12_refutes hc2) ml_L_134 ly_281 rfl rfl hl.1 rfl ⟨(Nat.le_of_ble_eq_true rfl), (Nat.le_of_ble_eq_true rfl)⟩ (Nat.le_of_ble_eq_true rfl) ⟨(Nat.le_of_ble_eq_true rfl), (Nat.le_of_ble_eq_true rfl)⟩ dL_law_1079 (fun H locs hH => ?_)
  refine lv_icmp_eq (tgt := 1136) hx hb dL_law_1082 (by decide) (fun _ => ?_) (fun c1 => absurd rfl c1)
  exact hnext D2 hI _ _ _ hH hl
set_option maxHeartbeats 4000000 in
theorem law_splits {G : va_G} {tA : Nat → ClassId} {E : Ex} {p : Program} {l : Launch} {e : Env} {s : State} {m : MethodId} {below : List Frame} {meth : Method} {c : Code} {b L : Nat} {xs : Nat → Int32} {Inv : Dm → Prop} (hL : L ≤ 4096) (O : Ok G tA s.heap.size E code "WordLearnerLaw" 4 p s m #[Value.ref b] c) (hX : va_X b L xs s s.heap) (hbl : b < s.heap.size) {n : Nat} (hn : n + 8 ≤ L) (hS : St_splits Inv) (hnext : ∀ D : Dm, Inv D → ∀ (H : Heap) (locs : List Loc) (ls : Array Slot), Hp G tA s.heap.size LAY D s.heap H locs → lv_has ls 4 [(0, .ref b), (1, .ref (s.heap.size + 0)), (2, .ref (s.heap.size + 281)), (3, .int (nI n))] → W p l e room_1 s m #[Value.ref b] below meth c H locs 318 92873 (lw_Z below #[Value.ref b] s) (F0 m 1136 ls [])) (D : Dm) (hI : Inv D) (H : Heap) (locs : List Loc) (ls : Array Slot) (hH : Hp G tA s.heap.size LAY D s.heap H locs) (hl : lv_has ls 4 [(0, .ref b), (1, .ref (s.heap.size + 0)), (2, .ref (s.heap.size + 281)), (3, .int (nI n))]) : W p l e room_1 s m #[Value.ref b] below meth c H locs 318 92873 (lw_Z below #[Value.ref b] s) (F0 m 1087 ls []) := by
  obtain ⟨hx, hb, -, hown, hts, -⟩ := id O
  have hbA : ¬ (fun q : Nat => s.heap.size ≤ q) b := Nat.not_le.mpr hbl
  obtain ⟨r, D1, D2, hc1, hc2, hI⟩ := hS D hI 
  refine lv_aload_n hx hb dL_law_1087 rfl (lv_at hl 1 rfl) ?_
  refine hl_call (As := []) (rest := []) O hH (c_X11_splits hc1) ml_L_135 ly_0 rfl rfl hl.1 rfl ⟨(Nat.le_of_ble_eq_true rfl), (Nat.le_of_ble_eq_true rfl)⟩ (Nat.le_of_ble_eq_true rfl) ⟨(Nat.le_of_ble_eq_true rfl), (Nat.le_of_ble_eq_true rfl)⟩ dL_law_1088 (fun H locs hH => ?_)
  refine lv_aload_n hx hb dL_law_1091 rfl (lv_at hl 2 rfl) ?_
  refine hl_call (As := []) (rest := [.int r]) O hH (c_X12_splits hc2) ml_L_138 ly_281 rfl rfl hl.1 rfl ⟨(Nat.le_of_ble_eq_true rfl), (Nat.le_of_ble_eq_true rfl)⟩ (Nat.le_of_ble_eq_true rfl) ⟨(Nat.le_of_ble_eq_true rfl), (Nat.le_of_ble_eq_true rfl)⟩ dL_law_1092 (fun H locs hH => ?_)
  refine lv_icmp_eq (tgt := 1136) hx hb dL_law_1095 (by decide) (fun _ => ?_) (fun c1 => absurd rfl c1)
  exact hnext D2 hI _ _ _ hH hl
set_option maxHeartbeats 4000000 in
theorem law_spare {G : va_G} {tA : Nat → ClassId} {E : Ex} {p : Program} {l : Launch} {e : Env} {s : State} {m : MethodId} {below : List Frame} {meth : Method} {c : Code} {b L : Nat} {xs : Nat → Int32} {Inv : Dm → Prop} (hL : L ≤ 4096) (O : Ok G tA s.heap.size E code "WordLearnerLaw" 4 p s m #[Value.ref b] c) (hX : va_X b L xs s s.heap) (hbl : b < s.heap.size) {n : Nat} (hn : n + 8 ≤ L) (hS : St_spare Inv) (hnext : ∀ D : Dm, Inv D → ∀ (H : Heap) (locs : List Loc) (ls : Array Slot), Hp G tA s.heap.size LAY D s.heap H locs → lv_has ls 4 [(0, .ref b), (1, .ref (s.heap.size + 0)), (2, .ref (s.heap.size + 281)), (3, .int (nI n))] → W p l e room_1 s m #[Value.ref b] below meth c H locs 318 92873 (lw_Z below #[Value.ref b] s) (F0 m 1136 ls [])) (D : Dm) (hI : Inv D) (H : Heap) (locs : List Loc) (ls : Array Slot) (hH : Hp G tA s.heap.size LAY D s.heap H locs) (hl : lv_has ls 4 [(0, .ref b), (1, .ref (s.heap.size + 0)), (2, .ref (s.heap.size + 281)), (3, .int (nI n))]) : W p l e room_1 s m #[Value.ref b] below meth c H locs 318 92873 (lw_Z below #[Value.ref b] s) (F0 m 1100 ls []) := by
  obtain ⟨hx, hb, -, hown, hts, -⟩ := id O
  have hbA : ¬ (fun q : Nat => s.heap.size ≤ q) b := Nat.not_le.mpr hbl
  obtain ⟨r, D1, D2, hc1, hc2, hI⟩ := hS D hI 
  refine lv_aload_n hx hb dL_law_1100 rfl (lv_at hl 1 rfl) ?_
  refine hl_call (As := []) (rest := []) O hH (c_X11_spare hc1) ml_L_139 ly_0 rfl rfl hl.1 rfl ⟨(Nat.le_of_ble_eq_true rfl), (Nat.le_of_ble_eq_true rfl)⟩ (Nat.le_of_ble_eq_true rfl) ⟨(Nat.le_of_ble_eq_true rfl), (Nat.le_of_ble_eq_true rfl)⟩ dL_law_1101 (fun H locs hH => ?_)
  refine lv_aload_n hx hb dL_law_1104 rfl (lv_at hl 2 rfl) ?_
  refine hl_call (As := []) (rest := [.int r]) O hH (c_X12_spare hc2) ml_L_142 ly_281 rfl rfl hl.1 rfl ⟨(Nat.le_of_ble_eq_true rfl), (Nat.le_of_ble_eq_true rfl)⟩ (Nat.le_of_ble_eq_true rfl) ⟨(Nat.le_of_ble_eq_true rfl), (Nat.le_of_ble_eq_true rfl)⟩ dL_law_1105 (fun H locs hH => ?_)
  refine lv_icmp_eq (tgt := 1136) hx hb dL_law_1108 (by decide) (fun _ => ?_) (fun c1 => absurd rfl c1)
  exact hnext D2 hI _ _ _ hH hl
set_option maxHeartbeats 4000000 in
theorem law_count {G : va_G} {tA : Nat → ClassId} {E : Ex} {p : Program} {l : Launch} {e : Env} {s : State} {m : MethodId} {below : List Frame} {meth : Method} {c : Code} {b L : Nat} {xs : Nat → Int32} {Inv : Dm → Prop} (hL : L ≤ 4096) (O : Ok G tA s.heap.size E code "WordLearnerLaw" 4 p s m #[Value.ref b] c) (hX : va_X b L xs s s.heap) (hbl : b < s.heap.size) {n : Nat} (hn : n + 8 ≤ L) (hS : St_count Inv) (hnext : ∀ D : Dm, Inv D → ∀ (H : Heap) (locs : List Loc) (ls : Array Slot), Hp G tA s.heap.size LAY D s.heap H locs → lv_has ls 4 [(0, .ref b), (1, .ref (s.heap.size + 0)), (2, .ref (s.heap.size + 281)), (3, .int (nI n))] → W p l e room_1 s m #[Value.ref b] below meth c H locs 318 92873 (lw_Z below #[Value.ref b] s) (F0 m 1136 ls [])) (D : Dm) (hI : Inv D) (H : Heap) (locs : List Loc) (ls : Array Slot) (hH : Hp G tA s.heap.size LAY D s.heap H locs) (hl : lv_has ls 4 [(0, .ref b), (1, .ref (s.heap.size + 0)), (2, .ref (s.heap.size + 281)), (3, .int (nI n))]) : W p l e room_1 s m #[Value.ref b] below meth c H locs 318 92873 (lw_Z below #[Value.ref b] s) (F0 m 1113 ls []) := by
  obtain ⟨hx, hb, -, hown, hts, -⟩ := id O
  have hbA : ¬ (fun q : Nat => s.heap.size ≤ q) b := Nat.not_le.mpr hbl
  obtain ⟨r, D1, D2, hc1, hc2, hI⟩ := hS D hI (xs (nI n + 1).toNatClampNeg)
  refine lv_aload_n hx hb dL_law_1113 rfl (lv_at hl 1 rfl) ?_
  refine lv_aload_n hx hb dL_law_1114 rfl (lv_at hl 0 rfl) ?_
  refine lv_iload_n hx hb dL_law_1115 rfl (lv_at hl 3 rfl) ?_
  refine lv_iconst (v := 1) hx hb dL_law_1116 (by decide) ?_
  refine lv_iadd hx hb dL_law_1117 ?_
  refine va_sld hx hb hX hbl hbA hH.2.2 (law_in hL (k := 1) rfl (by omega)) dL_law_1118 ?_
  refine hl_call (As := [.int (xs (nI n + 1).toNatClampNeg)]) (rest := []) O hH (c_X11_count hc1) ml_L_143 ly_0 rfl rfl hl.1 rfl ⟨(Nat.le_of_ble_eq_true rfl), (Nat.le_of_ble_eq_true rfl)⟩ (Nat.le_of_ble_eq_true rfl) ⟨(Nat.le_of_ble_eq_true rfl), (Nat.le_of_ble_eq_true rfl)⟩ dL_law_1119 (fun H locs hH => ?_)
  refine lv_aload_n hx hb dL_law_1122 rfl (lv_at hl 2 rfl) ?_
  refine lv_aload_n hx hb dL_law_1123 rfl (lv_at hl 0 rfl) ?_
  refine lv_iload_n hx hb dL_law_1124 rfl (lv_at hl 3 rfl) ?_
  refine lv_iconst (v := 1) hx hb dL_law_1125 (by decide) ?_
  refine lv_iadd hx hb dL_law_1126 ?_
  refine va_sld hx hb hX hbl hbA hH.2.2 (law_in hL (k := 1) rfl (by omega)) dL_law_1127 ?_
  refine hl_call (As := [.int (xs (nI n + 1).toNatClampNeg)]) (rest := [.int r]) O hH (c_X12_count hc2) ml_L_146 ly_281 rfl rfl hl.1 rfl ⟨(Nat.le_of_ble_eq_true rfl), (Nat.le_of_ble_eq_true rfl)⟩ (Nat.le_of_ble_eq_true rfl) ⟨(Nat.le_of_ble_eq_true rfl), (Nat.le_of_ble_eq_true rfl)⟩ dL_law_1128 (fun H locs hH => ?_)
  refine lv_icmp_eq (tgt := 1136) hx hb dL_law_1131 (by decide) (fun _ => ?_) (fun c1 => absurd rfl c1)
  exact hnext D2 hI _ _ _ hH hl
set_option maxHeartbeats 8000000 in
theorem law_loop {G : va_G} {tA : Nat → ClassId} {E : Ex} {p : Program} {l : Launch} {e : Env} {s : State} {m : MethodId} {below : List Frame} {meth : Method} {c : Code} {b L : Nat} {xs : Nat → Int32} {Inv : Dm → Prop} (hL : L ≤ 4096) (O : Ok G tA s.heap.size E code "WordLearnerLaw" 4 p s m #[Value.ref b] c) (hX : va_X b L xs s s.heap) (hbl : b < s.heap.size) (hr : meth.sig.returnType = ret) (hlocks : meth.locks = false) (S : StepOK Inv) : ∀ (f n : Nat), n ≤ 5000 → 5000 < n + 8 * f → ∀ (D : Dm), Inv D → ∀ (H : Heap) (locs : List Loc) (ls : Array Slot), Hp G tA s.heap.size LAY D s.heap H locs → lv_has ls 4 [(0, .ref b), (1, .ref (s.heap.size + 0)), (2, .ref (s.heap.size + 281)), (3, .int (nI n))] → W p l e room_1 s m #[Value.ref b] below meth c H locs 318 92873 (lw_Z below #[Value.ref b] s) (F0 m 18 ls []) := by
  obtain ⟨hx, hb, -, hown, hts, -⟩ := id O
  have hbA : ¬ (fun q : Nat => s.heap.size ≤ q) b := Nat.not_le.mpr hbl
  obtain ⟨hS0, hS1, hS2, hS3, hS4, hS5, hS6, hS7, hS8, hS9, hS10, hS11, hS12, hS13, hS14, hS15, hS16, hS17, hS18, hS19, hS20, hS21, hS22, hS23, hS24, hS25, hS26, hS27, hS28, hS29, hS30, hS31⟩ := S
  intro f
  induction f with
  | zero => intro n h1 h2; omega
  | succ f ih =>
    intro n hn1 hn2 D hI H locs ls hH hl
    refine lv_iload_n hx hb dL_law_18 rfl (lv_at hl 3 rfl) ?_
    refine lv_aload_n hx hb dL_law_19 rfl (lv_at hl 0 rfl) ?_
    refine va_slen hx hb hX hbl hbA hH.2.2 dL_law_20 ?_
    refine lv_bipush (v := 8) hx hb dL_law_21 (by decide) ?_
    refine lv_isub hx hb dL_law_23 ?_
    refine lv_icmp_gt (tgt := 1142) hx hb dL_law_24 (by decide) (fun c1 => ?_) (fun c1 => ?_)
    · refine lv_iconst (v := 1) hx hb dL_law_1142 (by decide) ?_
      refine va_forget (fun q hq => hH.2.2.2.2 q hq) ?_
      refine W.widen (k := 600000) (n := 7302250) (Nat.le_of_ble_eq_true rfl) (Nat.le_of_ble_eq_true rfl) ?_
      exact W.base (lw_ret (Drawn.sameBut.refl s.drawn lw_cs) hx hb hr hlocks dL_law_1143)
    · have hn8 : n + 8 ≤ L := law_n8 hL hn1 c1
      refine lv_aload_n hx hb dL_law_27 rfl (lv_at hl 0 rfl) ?_
      refine lv_iload_n hx hb dL_law_28 rfl (lv_at hl 3 rfl) ?_
      refine va_sld hx hb hX hbl hbA hH.2.2 (vp_in_nI (by omega) (by omega)) dL_law_29 ?_
      refine lv_bipush (v := 31) hx hb dL_law_30 (by decide) ?_
      refine lv_iand hx hb dL_law_32 ?_
      have hnext : ∀ D : Dm, Inv D → ∀ (H : Heap) (locs : List Loc) (ls : Array Slot), Hp G tA s.heap.size LAY D s.heap H locs → lv_has ls 4 [(0, .ref b), (1, .ref (s.heap.size + 0)), (2, .ref (s.heap.size + 281)), (3, .int (nI n))] → W p l e room_1 s m #[Value.ref b] below meth c H locs 318 92873 (lw_Z below #[Value.ref b] s) (F0 m 1136 ls []) := by
        intro D hI H locs ls hH hl
        refine lv_iinc (v := nI (n + 8)) (lv' := [(3, .int (nI (n + 8))), (0, .ref b), (1, .ref (s.heap.size + 0)), (2, .ref (s.heap.size + 281))]) hx hb dL_law_1136 hl (k := 3) rfl (nI_add n 8) (by decide) rfl (fun ls hl => ?_)
        refine lv_goto (tgt := 18) hx hb dL_law_1139 (by decide) ?_
        exact ih (n + 8) (by omega) (by omega) D hI _ _ _ hH (lv_sub hl [1, 2, 3, 0] rfl)
      obtain ⟨k, hk32, hk⟩ := law_and (xs (nI n).toNatClampNeg)
      match k, hk32 with
      | 0, _ => refine lv_tableIn (off := 143) (tgt := 176) hx hb dL_law_33 (by rw [hk]; decide) (by rw [hk]; decide) (by rw [hk]; rfl) (by decide) ?_; exact law_feed hL O hX hbl hn8 hS0 (fun D hI H locs ls hH hl => hnext D hI H locs ls hH hl) D hI _ _ _ hH hl
      | 1, _ => refine lv_tableIn (off := 206) (tgt := 239) hx hb dL_law_33 (by rw [hk]; decide) (by rw [hk]; decide) (by rw [hk]; rfl) (by decide) ?_; exact law_machine hL O hX hbl hn8 hS1 (fun D hI H locs ls hH hl => hnext D hI H locs ls hH hl) D hI _ _ _ hH hl
      | 2, _ => refine lv_tableIn (off := 239) (tgt := 272) hx hb dL_law_33 (by rw [hk]; decide) (by rw [hk]; decide) (by rw [hk]; rfl) (by decide) ?_; exact law_word hL O hX hbl hn8 hS2 (fun D hI H locs ls hH hl => hnext D hI H locs ls hH hl) D hI _ _ _ hH hl
      | 3, _ => refine lv_tableIn (off := 262) (tgt := 295) hx hb dL_law_33 (by rw [hk]; decide) (by rw [hk]; decide) (by rw [hk]; rfl) (by decide) ?_; exact law_fault hL O hX hbl hn8 hS3 (fun D hI H locs ls hH hl => hnext D hI H locs ls hH hl) D hI _ _ _ hH hl
      | 4, _ => refine lv_tableIn (off := 285) (tgt := 318) hx hb dL_law_33 (by rw [hk]; decide) (by rw [hk]; decide) (by rw [hk]; rfl) (by decide) ?_; exact law_accept hL O hX hbl hn8 hS4 (fun D hI H locs ls hH hl => hnext D hI H locs ls hH hl) D hI _ _ _ hH hl
      | 5, _ => refine lv_tableIn (off := 328) (tgt := 361) hx hb dL_law_33 (by rw [hk]; decide) (by rw [hk]; decide) (by rw [hk]; rfl) (by decide) ?_; exact law_move hL O hX hbl hn8 hS5 (fun D hI H locs ls hH hl => hnext D hI H locs ls hH hl) D hI _ _ _ hH hl
      | 6, _ => refine lv_tableIn (off := 415) (tgt := 448) hx hb dL_law_33 (by rw [hk]; decide) (by rw [hk]; decide) (by rw [hk]; rfl) (by decide) ?_; exact law_of hL O hX hbl hn8 hS6 (fun D hI H locs ls hH hl => hnext D hI H locs ls hH hl) D hI _ _ _ hH hl
      | 7, _ => refine lv_tableIn (off := 448) (tgt := 481) hx hb dL_law_33 (by rw [hk]; decide) (by rw [hk]; decide) (by rw [hk]; rfl) (by decide) ?_; exact law_moved hL O hX hbl hn8 hS7 (fun D hI H locs ls hH hl => hnext D hI H locs ls hH hl) D hI _ _ _ hH hl
      | 8, _ => refine lv_tableIn (off := 511) (tgt := 544) hx hb dL_law_33 (by rw [hk]; decide) (by rw [hk]; decide) (by rw [hk]; rfl) (by decide) ?_; exact law_ask hL O hX hbl hn8 hS8 (fun D hI H locs ls hH hl => hnext D hI H locs ls hH hl) D hI _ _ _ hH hl
      | 9, _ => refine lv_tableIn (off := 534) (tgt := 567) hx hb dL_law_33 (by rw [hk]; decide) (by rw [hk]; decide) (by rw [hk]; rfl) (by decide) ?_; exact law_behind hL O hX hbl hn8 hS9 (fun D hI H locs ls hH hl => hnext D hI H locs ls hH hl) D hI _ _ _ hH hl
      | 10, _ => refine lv_tableIn (off := 577) (tgt := 610) hx hb dL_law_33 (by rw [hk]; decide) (by rw [hk]; decide) (by rw [hk]; rfl) (by decide) ?_; exact law_many hL O hX hbl hn8 hS10 (fun D hI H locs ls hH hl => hnext D hI H locs ls hH hl) D hI _ _ _ hH hl
      | 11, _ => refine lv_tableIn (off := 610) (tgt := 643) hx hb dL_law_33 (by rw [hk]; decide) (by rw [hk]; decide) (by rw [hk]; rfl) (by decide) ?_; exact law_share hL O hX hbl hn8 hS11 (fun D hI H locs ls hH hl => hnext D hI H locs ls hH hl) D hI _ _ _ hH hl
      | 12, _ => refine lv_tableIn (off := 643) (tgt := 676) hx hb dL_law_33 (by rw [hk]; decide) (by rw [hk]; decide) (by rw [hk]; rfl) (by decide) ?_; exact law_differ hL O hX hbl hn8 hS12 (fun D hI H locs ls hH hl => hnext D hI H locs ls hH hl) D hI _ _ _ hH hl
      | 13, _ => refine lv_tableIn (off := 656) (tgt := 689) hx hb dL_law_33 (by rw [hk]; decide) (by rw [hk]; decide) (by rw [hk]; rfl) (by decide) ?_; exact law_differs hL O hX hbl hn8 hS13 (fun D hI H locs ls hH hl => hnext D hI H locs ls hH hl) D hI _ _ _ hH hl
      | 14, _ => refine lv_tableIn (off := 689) (tgt := 722) hx hb dL_law_33 (by rw [hk]; decide) (by rw [hk]; decide) (by rw [hk]; rfl) (by decide) ?_; exact law_couples hL O hX hbl hn8 hS14 (fun D hI H locs ls hH hl => hnext D hI H locs ls hH hl) D hI _ _ _ hH hl
      | 15, _ => refine lv_tableIn (off := 702) (tgt := 735) hx hb dL_law_33 (by rw [hk]; decide) (by rw [hk]; decide) (by rw [hk]; rfl) (by decide) ?_; exact law_letter hL O hX hbl hn8 hS15 (fun D hI H locs ls hH hl => hnext D hI H locs ls hH hl) D hI _ _ _ hH hl
      | 16, _ => refine lv_tableIn (off := 735) (tgt := 768) hx hb dL_law_33 (by rw [hk]; decide) (by rw [hk]; decide) (by rw [hk]; rfl) (by decide) ?_; exact law_remembered hL O hX hbl hn8 hS16 (fun D hI H locs ls hH hl => hnext D hI H locs ls hH hl) D hI _ _ _ hH hl
      | 17, _ => refine lv_tableIn (off := 748) (tgt := 781) hx hb dL_law_33 (by rw [hk]; decide) (by rw [hk]; decide) (by rw [hk]; rfl) (by decide) ?_; exact law_alike hL O hX hbl hn8 hS17 (fun D hI H locs ls hH hl => hnext D hI H locs ls hH hl) D hI _ _ _ hH hl
      | 18, _ => refine lv_tableIn (off := 771) (tgt := 804) hx hb dL_law_33 (by rw [hk]; decide) (by rw [hk]; decide) (by rw [hk]; rfl) (by decide) ?_; exact law_begin hL O hX hbl hn8 hS18 (fun D hI H locs ls hH hl => hnext D hI H locs ls hH hl) D hI _ _ _ hH hl
      | 19, _ => refine lv_tableIn (off := 784) (tgt := 817) hx hb dL_law_33 (by rw [hk]; decide) (by rw [hk]; decide) (by rw [hk]; rfl) (by decide) ?_; exact law_step hL O hX hbl hn8 hS19 (fun D hI H locs ls hH hl => hnext D hI H locs ls hH hl) D hI _ _ _ hH hl
      | 20, _ => refine lv_tableIn (off := 797) (tgt := 830) hx hb dL_law_33 (by rw [hk]; decide) (by rw [hk]; decide) (by rw [hk]; rfl) (by decide) ?_; exact law_learn hL O hX hbl hn8 hS20 (fun D hI H locs ls hH hl => hnext D hI H locs ls hH hl) D hI _ _ _ hH hl
      | 21, _ => refine lv_tableIn (off := 810) (tgt := 843) hx hb dL_law_33 (by rw [hk]; decide) (by rw [hk]; decide) (by rw [hk]; rfl) (by decide) ?_; exact law_brief hL O hX hbl hn8 hS21 (fun D hI H locs ls hH hl => hnext D hI H locs ls hH hl) D hI _ _ _ hH hl
      | 22, _ => refine lv_tableIn (off := 853) (tgt := 886) hx hb dL_law_33 (by rw [hk]; decide) (by rw [hk]; decide) (by rw [hk]; rfl) (by decide) ?_; exact law_test hL O hX hbl hn8 hS22 (fun D hI H locs ls hH hl => hnext D hI H locs ls hH hl) D hI _ _ _ hH hl
      | 23, _ => refine lv_tableIn (off := 896) (tgt := 929) hx hb dL_law_33 (by rw [hk]; decide) (by rw [hk]; decide) (by rw [hk]; rfl) (by decide) ?_; exact law_registers hL O hX hbl hn8 hS23 (fun D hI H locs ls hH hl => hnext D hI H locs ls hH hl) D hI _ _ _ hH hl
      | 24, _ => refine lv_tableIn (off := 919) (tgt := 952) hx hb dL_law_33 (by rw [hk]; decide) (by rw [hk]; decide) (by rw [hk]; rfl) (by decide) ?_; exact law_goes hL O hX hbl hn8 hS24 (fun D hI H locs ls hH hl => hnext D hI H locs ls hH hl) D hI _ _ _ hH hl
      | 25, _ => refine lv_tableIn (off := 962) (tgt := 995) hx hb dL_law_33 (by rw [hk]; decide) (by rw [hk]; decide) (by rw [hk]; rfl) (by decide) ?_; exact law_stands hL O hX hbl hn8 hS25 (fun D hI H locs ls hH hl => hnext D hI H locs ls hH hl) D hI _ _ _ hH hl
      | 26, _ => refine lv_tableIn (off := 975) (tgt := 1008) hx hb dL_law_33 (by rw [hk]; decide) (by rw [hk]; decide) (by rw [hk]; rfl) (by decide) ?_; exact law_guess hL O hX hbl hn8 hS26 (fun D hI H locs ls hH hl => hnext D hI H locs ls hH hl) D hI _ _ _ hH hl
      | 27, _ => refine lv_tableIn (off := 988) (tgt := 1021) hx hb dL_law_33 (by rw [hk]; decide) (by rw [hk]; decide) (by rw [hk]; rfl) (by decide) ?_; exact law_guessed hL O hX hbl hn8 hS27 (fun D hI H locs ls hH hl => hnext D hI H locs ls hH hl) D hI _ _ _ hH hl
      | 28, _ => refine lv_tableIn (off := 1021) (tgt := 1054) hx hb dL_law_33 (by rw [hk]; decide) (by rw [hk]; decide) (by rw [hk]; rfl) (by decide) ?_; exact law_refutes hL O hX hbl hn8 hS28 (fun D hI H locs ls hH hl => hnext D hI H locs ls hH hl) D hI _ _ _ hH hl
      | 29, _ => refine lv_tableIn (off := 1054) (tgt := 1087) hx hb dL_law_33 (by rw [hk]; decide) (by rw [hk]; decide) (by rw [hk]; rfl) (by decide) ?_; exact law_splits hL O hX hbl hn8 hS29 (fun D hI H locs ls hH hl => hnext D hI H locs ls hH hl) D hI _ _ _ hH hl
      | 30, _ => refine lv_tableIn (off := 1067) (tgt := 1100) hx hb dL_law_33 (by rw [hk]; decide) (by rw [hk]; decide) (by rw [hk]; rfl) (by decide) ?_; exact law_spare hL O hX hbl hn8 hS30 (fun D hI H locs ls hH hl => hnext D hI H locs ls hH hl) D hI _ _ _ hH hl
      | 31, _ => refine lv_tableIn (off := 1080) (tgt := 1113) hx hb dL_law_33 (by rw [hk]; decide) (by rw [hk]; decide) (by rw [hk]; rfl) (by decide) ?_; exact law_count hL O hX hbl hn8 hS31 (fun D hI H locs ls hH hl => hnext D hI H locs ls hH hl) D hI _ _ _ hH hl
      | k + 32, hk32 => exact absurd hk32 (by omega)
theorem mi_L_9 : MLI "WordLearnerLaw" 9 yX11_init cX11_init 2 0 := ⟨ww_24, ww_25, ww_1, ww_26, rfl, ⟨⟨by decide +kernel, by decide +kernel, by decide +kernel⟩, by decide⟩⟩
theorem mi_L_12 : MLI "WordLearnerLaw" 12 yX12_init cX12_init 3 0 := ⟨ww_1112, ww_1113, ww_14, ww_1114, rfl, ⟨⟨by decide +kernel, by decide +kernel, by decide +kernel⟩, by decide⟩⟩
set_option maxHeartbeats 8000000 in
/-- the law from its entry, over an invariant that holds at the start and that every pair of calls keeps -/
theorem law_entry {G : va_G} {tA : Nat → ClassId} {E : Ex} {p : Program} {l : Launch} {e : Env} {s : State} {m : MethodId} {below : List Frame} {meth : Method} {c : Code} {b L : Nat} {xs : Nat → Int32} {Inv : Dm → Prop} (hL : L ≤ 4096) (O : Ok G tA s.heap.size E code "WordLearnerLaw" 4 p s m #[Value.ref b] c) (hX : va_X b L xs s s.heap) (hbl : b < s.heap.size) (hr : meth.sig.returnType = ret) (hlocks : meth.locks = false) (hI : Inv D0i) (S : StepOK Inv) : W p l e room_1 s m #[Value.ref b] below meth c s.heap [] 0 0 (lw_Z below #[Value.ref b] s) (entryFrame m ([Value.ref b] : List Value).toArray 4) := by
  obtain ⟨hx, hb, -, hown, hts, -⟩ := id O
  have hbA : ¬ (fun q : Nat => s.heap.size ≤ q) b := Nat.not_le.mpr hbl
  have hl := lv_entry ([.ref b]) (n := 4) (Nat.le_of_ble_eq_true rfl)
  rw [lg_entry_eq]
  generalize (lg_sl ([.ref b]) ++ List.replicate (4 - (lg_sl ([.ref b])).length) Slot.unset).toArray = ls at hl ⊢
  have hl : lv_has ls 4 [(0, .ref b)] := hl
  have hH : Hp G tA s.heap.size [] (fun _ _ => 0) s.heap s.heap [] := ⟨rfl, fun k q h => by simp [mw] at h, va_S.rf⟩
  refine hc_new (q := 0) (L1 := [.inr (.inr (11, bl11))]) (D1 := zr (fun _ _ => 0) 0) O hH cb_11 nb_11 ww_22 ww_23 ww_1 (Nat.le_of_ble_eq_true rfl) (Nat.le_of_ble_eq_true rfl) rfl rfl rfl dL_law_0 (fun H hH => ?_)
  refine lv_dup hx hb dL_law_3 rfl ?_
  refine hc_callI (As := []) (rest := [.ref (s.heap.size + 0)]) O hH (cc_X11_init I1_eq) mi_L_9 rfl hl.1 rfl ⟨Nat.le_of_ble_eq_true rfl, Nat.le_of_ble_eq_true rfl⟩ (Nat.le_of_ble_eq_true rfl) ⟨Nat.le_of_ble_eq_true rfl, Nat.le_of_ble_eq_true rfl⟩ dL_law_4 (fun H locs hH => ?_)
  refine lv_astore_n (lv' := [(1, .ref (s.heap.size + 0)), (0, .ref b)]) hx hb dL_law_7 rfl hl (by decide) rfl (fun ls hl => ?_)
  refine hc_new (q := 281) (L1 := LAY.take 281 ++ [.inr (.inr (12, bl12))]) (D1 := zr D1i 281) O hH cb_12 nb_12 ww_1110 ww_1111 ww_14 (Nat.le_of_ble_eq_true rfl) (Nat.le_of_ble_eq_true rfl) (by rw [List.length_take, LAY_len]; rfl) rfl (by rw [List.length_take, LAY_len]; rfl) dL_law_8 (fun H hH => ?_)
  refine lv_dup hx hb dL_law_11 rfl ?_
  refine hc_callI (As := []) (rest := [.ref (s.heap.size + 281)]) O hH (cc_X12_init I2_eq) mi_L_12 rfl hl.1 rfl ⟨Nat.le_of_ble_eq_true rfl, Nat.le_of_ble_eq_true rfl⟩ (Nat.le_of_ble_eq_true rfl) ⟨Nat.le_of_ble_eq_true rfl, Nat.le_of_ble_eq_true rfl⟩ dL_law_12 (fun H locs hH => ?_)
  refine lv_astore_n (lv' := [(2, .ref (s.heap.size + 281)), (1, .ref (s.heap.size + 0)), (0, .ref b)]) hx hb dL_law_15 rfl hl (by decide) rfl (fun ls hl => ?_)
  refine lv_iconst (v := 0) hx hb dL_law_16 (by decide) ?_
  refine lv_istore_n (lv' := [(3, .int 0), (2, .ref (s.heap.size + 281)), (1, .ref (s.heap.size + 0)), (0, .ref b)]) hx hb dL_law_17 rfl hl (by decide) rfl (fun ls hl => ?_)
  exact law_loop hL O hX hbl hr hlocks S 626 0 (by omega) (by omega) D0i hI _ _ _ hH (lv_sub hl [3, 2, 1, 0] rfl)
