/-! ===== BASE: one memory: cells at z, z + 1 ..; their shapes L; their numbers D ===== -/
abbrev Sf : Type := Option (Option Nat)
abbrev Sh : Type := (Nat × Nat) ⊕ (Nat × List (Option Nat)) ⊕ (Nat × List Sf)
abbrev Dm : Type := Nat → Nat → Int32
def sfv (z : Nat) (d : Nat → Int32) (k : Nat) (o : Sf) : Value := match o with
  | none => .int (d k)
  | some none => .null
  | some (some j) => .ref (z + j)
def cellOf (tA : Nat → ClassId) (z : Nat) (d : Nat → Int32) (s : Sh) : va_E := match s with
  | .inl q => .inl (tA q.1, q.2, .inl d)
  | .inr (.inl q) => .inl (tA q.1, q.2.length, .inr (.inr (.inr (.inr (fun k => (q.2.getD k none).map (fun j => z + j))))))
  | .inr (.inr q) => .inr (q.1, q.2.mapIdx (fun k o => sfv z d k o))
def mw (tA : Nat → ClassId) (z : Nat) (L : List Sh) (D : Dm) : va_W := L.mapIdx (fun i s => (z + i, cellOf tA z (D i) s))
/-- one number of one cell is put -/
def ud (D : Dm) (i k : Nat) (v : Int32) : Dm := fun j => if j = i then upd (D i) k v else D j
abbrev tys (tA : Nat → ClassId) : List (ClassId × FieldType) := [(tA 0, .int), (tA 1, .byte), (tA 2, .boolean), (tA 3, .object RX4), (tA 4, .object RX1), (tA 5, .object RX10), (tA 6, .object RX6)]
theorem mw_get {tA : Nat → ClassId} {z : Nat} {L : List Sh} {D : Dm} {i : Nat} {s : Sh} (h : L[i]? = some s) : (mw tA z L D)[i]? = some (z + i, cellOf tA z (D i) s) := by
  simp [mw, List.getElem?_mapIdx, h]
theorem mw_len {tA : Nat → ClassId} {z : Nat} {L : List Sh} {D : Dm} : (mw tA z L D).length = L.length := by simp [mw]
theorem mw_inv {tA : Nat → ClassId} {z : Nat} {L : List Sh} {D : Dm} {i : Nat} {q : Nat × va_E} (h : (mw tA z L D)[i]? = some q) : ∃ s, L[i]? = some s ∧ q = (z + i, cellOf tA z (D i) s) := by
  simp only [mw, List.getElem?_mapIdx] at h
  cases hs : L[i]? with
  | none => rw [hs] at h; cases h
  | some s => rw [hs] at h; exact ⟨s, rfl, (Option.some.inj h).symm⟩
theorem mw_D {tA : Nat → ClassId} {z : Nat} {L : List Sh} {D : Dm} : va_D (fun q => z ≤ q) (mw tA z L D) := by
  refine ⟨fun i j p q hi hj e => ?_, fun k q hk => ?_⟩
  · obtain ⟨_, -, rfl⟩ := mw_inv hi
    obtain ⟨_, -, rfl⟩ := mw_inv hj
    exact Nat.add_left_cancel e
  · obtain ⟨_, -, rfl⟩ := mw_inv hk
    exact Nat.le_add_right z k
theorem mw_set {tA : Nat → ClassId} {z : Nat} {L : List Sh} {D D' : Dm} {i : Nat} {s : Sh} {e : va_E} (h : L[i]? = some s) (he : e = cellOf tA z (D' i) s) (hD : ∀ j, j ≠ i → D' j = D j) : (mw tA z L D).set i (z + i, e) = mw tA z L D' := by
  apply List.ext_getElem?
  intro j
  by_cases hj : j = i
  · subst hj
    rw [List.getElem?_set_self (by rw [mw_len]; exact (List.getElem?_eq_some_iff.mp h).1), mw_get h, he]
  · rw [List.getElem?_set_ne (Ne.symm hj)]
    simp only [mw, List.getElem?_mapIdx, hD j hj]
theorem obj_set {z : Nat} {fs : List Sf} {d : Nat → Int32} {k : Nat} {v : Int32} (hf : fs[k]? = some none) : (fs.mapIdx (fun j o => sfv z d j o)).set k (.int v) = fs.mapIdx (fun j o => sfv z (upd d k v) j o) := by
  apply List.ext_getElem?
  intro j
  by_cases hj : j = k
  · subst hj
    rw [List.getElem?_set_self (by rw [List.length_mapIdx]; exact (List.getElem?_eq_some_iff.mp hf).1)]
    simp [List.getElem?_mapIdx, hf, sfv, upd]
  · rw [List.getElem?_set_ne (Ne.symm hj)]
    simp only [List.getElem?_mapIdx]
    cases fs[j]? with
    | none => rfl
    | some o => rcases o with _ | _ | q <;> simp [sfv, upd, hj]
theorem ud_self {D : Dm} {i k : Nat} {v : Int32} : ud D i k v i = upd (D i) k v := by simp [ud]
theorem ud_ne {D : Dm} {i k j : Nat} {v : Int32} (h : j ≠ i) : ud D i k v j = D j := by simp [ud, h]
/-- what the start says beside the tables' words: where the texts and the tables of numbers lie (all below z) -/
abbrev Ex : Type := (Nat → Nat) × (Nat → Nat) × Nat × Nat
def nestM : List (String × Nat × MethodName) := [("WordLearner", 9, ⟨"WordLearner$Reader", "<init>", "()V"⟩), ("WordLearner", 18, ⟨"WordLearner$MachineText", "<init>", "()V"⟩), ("WordLearner$Machine", 3, ⟨"WordLearner$Walker", "<init>", "()V"⟩), ("WordLearner", 32, ⟨"WordLearner$Word", "<init>", "()V"⟩), ("WordLearner", 42, ⟨"WordLearner$Search", "<init>", "()V"⟩), ("WordLearner$Search", 32, ⟨"WordLearner$Going", "<init>", "()V"⟩), ("WordLearner$Learner", 23, ⟨"WordLearner$Profile", "<init>", "()V"⟩), ("WordLearner$Profile", 11, ⟨"WordLearner$Going", "<init>", "()V"⟩), ("WordLearner$Learner", 30, ⟨"WordLearner$Hypothesis", "<init>", "()V"⟩), ("WordLearner$Hypothesis", 3, ⟨"WordLearner$Walker", "<init>", "()V"⟩), ("WordLearner$Learner", 35, ⟨"WordLearner$Word", "<init>", "()V"⟩), ("WordLearner$Learner", 48, ⟨"WordLearner$Going", "<init>", "()V"⟩), ("WordLearner$Asker", 26, ⟨"WordLearner$Going", "<init>", "()V"⟩), ("WordLearner$Asker", 35, ⟨"WordLearner$Word", "<init>", "()V"⟩), ("WordLearner", 61, ⟨"WordLearner$Going", "<init>", "()V"⟩)]
def overs : List String := ["WordLearner$Machine", "WordLearner$Word", "WordLearner$Profile", "WordLearner$Going"]
def decls : List MethodName := [⟨"WordLearner$Walker", "walk", "(LWordLearner$Going;LWordLearner$Word;I)V"⟩, ⟨"WordLearner$Walker", "advance", "(LWordLearner$Going;II)V"⟩, ⟨"WordLearner$Walker", "takes", "(LWordLearner$Going;)Z"⟩]
def strs : List (String × Nat × String) := [("WordLearner$MachineText", 48, "states"), ("WordLearner$MachineText", 58, "registers"), ("WordLearner$MachineText", 63, "symbols"), ("WordLearner$MachineText", 68, "accept"), ("WordLearner$MachineText", 73, "move"), ("WordLearner$Reader", 64, "a"), ("WordLearner$Reader", 66, "b"), ("WordLearner$MachineText", 105, "same"), ("WordLearner$MachineText", 107, "new"), ("WordLearner$MachineText", 109, "to"), ("WordLearner$MachineText", 111, "keep"), ("WordLearner$MachineText", 113, "drop"), ("WordLearner$MachineText", 82, ";"), ("WordLearnerModel", 186, "states registers symbols accept move same new to keep drop a b ")]
def slen : List Nat := [6, 9, 7, 6, 4, 1, 1, 4, 3, 2, 4, 4, 1, 63]
def sbyt : List (List Int32) := [[115, 116, 97, 116, 101, 115], [114, 101, 103, 105, 115, 116, 101, 114, 115], [115, 121, 109, 98, 111, 108, 115], [97, 99, 99, 101, 112, 116], [109, 111, 118, 101], [97], [98], [115, 97, 109, 101], [110, 101, 119], [116, 111], [107, 101, 101, 112], [100, 114, 111, 112], [59], [115, 116, 97, 116, 101, 115, 32, 114, 101, 103, 105, 115, 116, 101, 114, 115, 32, 115, 121, 109, 98, 111, 108, 115, 32, 97, 99, 99, 101, 112, 116, 32, 109, 111, 118, 101, 32, 115, 97, 109, 101, 32, 110, 101, 119, 32, 116, 111, 32, 107, 101, 101, 112, 32, 100, 114, 111, 112, 32, 97, 32, 98, 32]]
def NW (z : Nat) (E : Ex) (U : State) (H : Heap) : Prop :=
  (∀ q ∈ nestM, va_Nw (.methodLinkNest q.1 q.2.1 q.2.2 "WordLearner") U) ∧ (∀ C ∈ overs, va_AO C U) ∧ (∀ x ∈ decls, va_Nw (.declares x) U) ∧ va_Nw (.fieldLinkNest "WordLearner$Asker" 36 "WordLearner" "POWERS_OF_3" "[I" "WordLearner") U ∧
  vk_S 14 slen sbyt E.1 E.2.1 (fun q => z ≤ q) U H ∧ (∀ k q, strs[k]? = some q → vk_R q.1 q.2.1 q.2.2 (E.1 k) U) ∧
  va_Z "WordLearner" "POWERS_OF_3" "[I" (.ref E.2.2.1) (fun q => z ≤ q) U H ∧ va_T .int E.2.2.1 4 (fun j => .int (([1, 3, 9, 27] : List Int32).getD j 0)) (fun q => z ≤ q) U H ∧
  va_Z "WordLearner" "WAYS_TO_NAME" "[I" (.ref E.2.2.2) (fun q => z ≤ q) U H ∧ va_T .int E.2.2.2 6 (fun j => .int (([1, 1, 2, 5, 15, 52] : List Int32).getD j 0)) (fun q => z ≤ q) U H ∧
  va_Z "java/lang/String" "COMPACT_STRINGS" "Z" (.int 1) (fun q => z ≤ q) U H ∧ va_Zq "jdk/internal/util/Preconditions" "SIOOBE_FORMATTER" "Ljava/util/function/BiFunction;" (fun q => z ≤ q) U H
theorem NW.to {z : Nat} {E : Ex} {u U : State} {H H1 : Heap} (hW : u.WarmedH U.vm) (hq : ∀ a : Nat, a < H.size → ¬ z ≤ a → H1[a]? = H[a]?) (h : NW z E u H) : NW z E U H1 := by
  obtain ⟨h1, h2, h3, h4, h5, h6, h7, h8, h9, h10, h11, h12⟩ := h
  exact ⟨fun q hq => va_Nw.warmM hW (h1 q hq), fun C hC => va_AO.moved hW.alike (h2 C hC), fun x hx => va_Nw.warmD hW (h3 x hx), va_Nw.warmF hW h4, vk_S.moved hW.alike (h5.kept hq), fun k q hk => vk_R.warm hW (h6 k q hk),
    va_Z.moved hW.alike (h7.kept hq), va_T.moved hW.alike (h8.kept hq), va_Z.moved hW.alike (h9.kept hq), va_T.moved hW.alike (h10.kept hq), va_Z.moved hW.alike (h11.kept hq), va_Zq.moved hW.alike (h12.kept hq)⟩
/-- the world of a method, at its start and at its end -/
def Wd (G : va_G) (tA : Nat → ClassId) (z : Nat) (E : Ex) (L : List Sh) (D : Dm) (U : State) : Prop := U.heap.size = z + L.length ∧ va_P G classes (mw tA z L D) U.heap ∧ va_K G classes (tys tA) U ∧ NW z E U U.heap
/-- the heap on the way -/
def Hp (G : va_G) (tA : Nat → ClassId) (z : Nat) (L : List Sh) (D : Dm) (H0 H : Heap) (locs : List Loc) : Prop := H.size = z + L.length ∧ va_P G classes (mw tA z L D) H ∧ va_S (fun q => z ≤ q) H0 H locs
/-- what holds all along a method's walk -/
def Ok (G : va_G) (tA : Nat → ClassId) (z : Nat) (E : Ex) (cc : ByteArray) (own : String) (nL : Nat) (p : Program) (s : State) (m : MethodId) (args : Array Value) (c : Code) : Prop :=
  p.tables.exec = Jvm.exec ∧ c.code = cc ∧ c.maxLocals = nL ∧ s.vm.findClass own = some m.cls ∧ (∀ w ∈ WS, w.before args s = true) ∧ va_K G classes (tys tA) s ∧ NW z E s s.heap ∧ z ≤ s.heap.size
def CB (ci : Nat) (C : String) (T : u_T) (N : Nat) (ty : Nat → FieldType) : Prop := classes[ci]? = some (C, T, N) ∧ (∀ w ∈ u_ws C T N, w ∈ WS) ∧ (∀ k, k < N → parseFieldDescriptor (T k).2.2.1 = some (ty k)) ∧ (∀ a, a < N → ∀ b, b < N → a ≠ b → (T a).2.1 ≠ (T b).2.1)
def FL (own : String) (index ci k : Nat) (tg : FieldType) (fin : Bool) : Prop := ∃ (C : String) (T : u_T) (N : Nat) (ty : Nat → FieldType), CB ci C T N ty ∧ k < N ∧ Cond.fieldLink own index (T k).1 (T k).2.1 (T k).2.2.1 ∈ WS ∧ parseFieldDescriptor (T k).2.2.1 = some tg ∧ (T k).2.2.2 = fin ∧ (T k).1 = C
def rmC (d mc ms : Nat) : Room := { frames := d, cells := mc, slots := ms, locals := 64 * d }
def CtI (l : Launch) (y : MethodName) (cc : ByteArray) (mL : Nat) (rt : Option FieldType) (G : va_G) (tA : Nat → ClassId) (z : Nat) (E : Ex) (d mc ms : Nat) (av : List Value) (L : List Sh) (D : Dm) (r : Int32) (L' : List Sh) (D' : Dm) : Prop :=
  Met l y (.code y cc mL rt :: WS) (rmC d mc ms) (va_Pc av (Wd G tA z E L D)) (va_Qi (fun r' (_ : Unit) => r' = r) (fun _ t => Wd G tA z E L' D' t) (fun q => z ≤ q)) mc ms (fun q => z ≤ q)
def CtV (l : Launch) (y : MethodName) (cc : ByteArray) (mL : Nat) (G : va_G) (tA : Nat → ClassId) (z : Nat) (E : Ex) (d mc ms : Nat) (av : List Value) (L : List Sh) (D : Dm) (L' : List Sh) (D' : Dm) : Prop :=
  Met l y (.code y cc mL none :: WS) (rmC d mc ms) (va_Pc av (Wd G tA z E L D)) (va_Qv (fun (_ : Unit) => True) (fun _ t => Wd G tA z E L' D' t) (fun q => z ≤ q)) mc ms (fun q => z ≤ q)
def MD (y : MethodName) (n mL : Nat) : Prop := (y.cls ≠ "java/lang/invoke/MethodHandle" ∧ y.cls ≠ "java/lang/invoke/VarHandle" ∧ (parseMethodDescriptor y.desc).map (fun d => d.parameters.length) = some n) ∧ mL ≤ 44
def MLV (own : String) (index : Nat) (C : String) (y : MethodName) (cc : ByteArray) (mL : Nat) (rt : Option FieldType) (n : Nat) : Prop :=
  Cond.methodLink own index y ∈ WS ∧ Cond.instanceMethod y ∈ WS ∧ Cond.selects C y y ∈ WS ∧ Cond.initialized C ∈ WS ∧ Cond.code y cc mL rt ∈ WS ∧ y.cls = C ∧ MD y n mL
def MLS (own : String) (index : Nat) (y : MethodName) (cc : ByteArray) (mL : Nat) (rt : Option FieldType) (n : Nat) : Prop :=
  Cond.methodLink own index y ∈ WS ∧ Cond.static y ∈ WS ∧ Cond.initialized y.cls ∈ WS ∧ Cond.code y cc mL rt ∈ WS ∧ MD y n mL
/-- a truth value -/
def zb (v : Int32) : Prop := v = 0 ∨ v = 1
theorem zb_0 : zb 0 := Or.inl rfl
theorem zb_1 : zb 1 := Or.inr rfl
/-- a guard; a name -/
def gd {α : Type} (c : Bool) (x : Option α) : Option α := if c = true then x else none
def zbB (v : Int32) : Bool := decide (v = 0) || decide (v = 1)
def inB (i : Int32) (n : Nat) : Bool := decide (0 ≤ i) && decide (i.toNatClampNeg < n)
theorem gd_some {α : Type} {c : Bool} {x : Option α} {o : α} (h : gd c x = some o) : c = true ∧ x = some o := by
  unfold gd at h
  split at h
  · exact ⟨by assumption, h⟩
  · cases h
theorem zbB_ok {v : Int32} (h : zbB v = true) : zb v := by
  simp only [zbB, Bool.or_eq_true, decide_eq_true_eq] at h
  exact h
theorem inB_ok {i : Int32} {n : Nat} (h : inB i n = true) : vp_in i n := by
  simp only [inB, Bool.and_eq_true, decide_eq_true_eq] at h
  intro q
  rcases q with q | q
  · exact absurd q (Int32.not_lt.mpr h.1)
  · omega
theorem zb_nar {v : Int32} (h : zb v) : narrow .boolean (.int v) = .int v := by
  rcases h with rfl | rfl <;> rfl
theorem zb_nar2 {v : Int32} (h : zb v) : vp_nar .boolean v = v := by
  unfold vp_nar
  rw [zb_nar h]
def bI {α : Type} (x : Option (Int32 × Dm)) (f : Int32 → Dm → Option α) : Option α := match x with
  | none => none
  | some y => f y.1 y.2
theorem bI_some {α : Type} {x : Option (Int32 × Dm)} {f : Int32 → Dm → Option α} {o : α} (h : bI x f = some o) : ∃ r D, x = some (r, D) ∧ f r D = some o := by
  cases x with
  | none => cases h
  | some y => exact ⟨y.1, y.2, rfl, h⟩
def bV {α : Type} (x : Option Dm) (f : Dm → Option α) : Option α := match x with
  | none => none
  | some y => f y
theorem bV_some {α : Type} {x : Option Dm} {f : Dm → Option α} {o : α} (h : bV x f = some o) : ∃ D, x = some D ∧ f D = some o := by
  cases x with
  | none => cases h
  | some y => exact ⟨y, rfl, h⟩
def lt {α β : Type} (x : α) (f : α → β) : β := f x
theorem lt_some {α β : Type} {x : α} {f : α → β} {o : β} (h : lt x f = o) : ∃ y, y = x ∧ f y = o := ⟨x, rfl, h⟩
theorem bnd_some {α β : Type} {x : Option α} {f : α → Option β} {o : β} (h : x.bind f = some o) : ∃ y, x = some y ∧ f y = some o := by
  cases x with
  | none => cases h
  | some y => exact ⟨y, rfl, h⟩
theorem it_pos {α : Type} {c : Prop} [Decidable c] {x y : α} {o : α} (h : (if c then x else y) = o) (hc : c) : x = o := by rw [if_pos hc] at h; exact h
theorem it_neg {α : Type} {c : Prop} [Decidable c] {x y : α} {o : α} (h : (if c then x else y) = o) (hc : ¬ c) : y = o := by rw [if_neg hc] at h; exact h
theorem Wd_blind {G : va_G} {tA : Nat → ClassId} {z : Nat} {E : Ex} {L : List Sh} {D : Dm} {av : List Value} : FrameBlind (va_Pc av (Wd G tA z E L D)) := fun a U g mk q => ⟨q.1, q.2.1, q.2.2.1, va_K.moved (u := U) (U := U.calling g mk a) (Vm.Alike.refl U.vm) q.2.2.2.1, NW.to (u := U) (U := U.calling g mk a) (State.WarmedH.refl U) (fun _ _ _ => rfl) q.2.2.2.2⟩
section BASE
variable {p : Program} {l : Launch} {e : Env} {R : Room} {s : State} {m : MethodId} {args : Array Value} {below : List Frame} {meth : Method} {c : Code} {H : Heap} {locs : List Loc} {cells slots : Nat} {Q : State → Prop}
variable {cc : ByteArray} {pc : Nat} {ls : Array Slot} {rest : List Value} {G : va_G} {tA : Nat → ClassId} {z : Nat} {E : Ex} {H0 : Heap} {L : List Sh} {D : Dm} {own : String} {index nL : Nat}
theorem Hp.wd (hH : Hp G tA z L D s.heap H locs) (O : Ok G tA z E cc own nL p s m args c) {U : State} (hU : U.heap = H) (hW : s.WarmedH U.vm) : Wd G tA z E L D U := by
  obtain ⟨-, -, -, -, -, hK, hB, hz⟩ := O
  refine ⟨by rw [hU]; exact hH.1, by rw [hU]; exact hH.2.1, va_K.moved hW.alike hK, ?_⟩
  rw [hU]
  exact NW.to hW (fun q h1 h2 => hH.2.2.2.1 q h1 h2) hB
theorem W.sized {g : JFrame} (h0 : s.heap.size ≤ H.size) (k : H.size = s.heap.size → W p l e R s m args below meth c H locs 0 slots Q g) : W p l e R s m args below meth c H locs 0 slots Q g := by
  intro T hT X
  have h1 := X.heapSize
  rw [hT] at h1
  exact k (by omega) T hT X
theorem h_geti {tg : FieldType} {fin : Bool} (O : Ok G tA z E cc own nL p s m args c) (hH : Hp G tA z L D H0 H locs) {i ci k : Nat} {fs : List Sf} (hi : L[i]? = some (.inr (.inr (ci, fs)))) (hf : fs[k]? = some none) (fl : FL own index ci k tg fin) (hdg : decode cc pc = .ok (.getfield index, 3))
    (kk : W p l e R s m args below meth c H locs cells slots Q (F0 m (pc + 3) ls (.int (D i k) :: rest))) : W p l e R s m args below meth c H locs cells slots Q (F0 m pc ls (.ref (z + i) :: rest)) := by
  obtain ⟨hx, hb, -, hown, hts, hK, -⟩ := O
  obtain ⟨C, T, N, ty, ⟨hc, hin, hty, hnm⟩, hk, hlk, -, -, hd⟩ := fl
  exact va_get hx hb hts hin hown hK hH.2.1 i (mw_get hi) hc k hk (hts _ hlk) (fun _ h => h) (v := .int (D i k)) (by simp [List.getElem?_mapIdx, hf, sfv]) hdg kk
theorem h_getr {tg : FieldType} {fin : Bool} (O : Ok G tA z E cc own nL p s m args c) (hH : Hp G tA z L D H0 H locs) {i ci k j : Nat} {fs : List Sf} (hi : L[i]? = some (.inr (.inr (ci, fs)))) (hf : fs[k]? = some (some (some j))) (fl : FL own index ci k tg fin) (hdg : decode cc pc = .ok (.getfield index, 3))
    (kk : W p l e R s m args below meth c H locs cells slots Q (F0 m (pc + 3) ls (.ref (z + j) :: rest))) : W p l e R s m args below meth c H locs cells slots Q (F0 m pc ls (.ref (z + i) :: rest)) := by
  obtain ⟨hx, hb, -, hown, hts, hK, -⟩ := O
  obtain ⟨C, T, N, ty, ⟨hc, hin, hty, hnm⟩, hk, hlk, -, -, hd⟩ := fl
  exact va_get hx hb hts hin hown hK hH.2.1 i (mw_get hi) hc k hk (hts _ hlk) (fun _ h => h) (v := .ref (z + j)) (by simp [List.getElem?_mapIdx, hf, sfv]) hdg kk
theorem h_puti (O : Ok G tA z E cc own nL p s m args c) (hH : Hp G tA z L D s.heap H locs) {i ci k : Nat} {fs : List Sf} {v : Int32} {D1 : Dm} (hi : L[i]? = some (.inr (.inr (ci, fs)))) (hf : fs[k]? = some none) (fl : FL own index ci k .int false) (hD1 : D1 = ud D i k v) (hdg : decode cc pc = .ok (.putfield index, 3))
    (kk : ∀ (H1 : Heap) (locs1 : List Loc), Hp G tA z L D1 s.heap H1 locs1 → W p l e R s m args below meth c H1 locs1 0 slots Q (F0 m (pc + 3) ls rest)) : W p l e R s m args below meth c H locs 0 slots Q (F0 m pc ls (.int v :: .ref (z + i) :: rest)) := by
  obtain ⟨hx, hb, -, hown, hts, hK, -⟩ := O
  obtain ⟨C, T, N, ty, ⟨hc, hin, hty, hnm⟩, hk, hlk, hd, hfin, -⟩ := fl
  refine W.sized hH.2.2.1 (fun e0 => ?_)
  refine va_put hx hb hts hin ty hty hnm hown hK hH.2.1 mw_D hH.2.2 i (mw_get hi) hc k hk (hts _ hlk) (fun _ h => h) hfin hd rfl rfl (by rw [List.length_mapIdx]; exact (List.getElem?_eq_some_iff.mp hf).1) hdg (fun H1 locs1 h1 _ h3 => ?_)
  refine W.sized h3.1 (fun e1 => ?_)
  refine kk H1 locs1 ⟨by rw [e1, ← e0]; exact hH.1, ?_, h3⟩
  rw [mw_set hi (D' := D1) (by rw [obj_set hf, hD1, ud_self]; rfl) (fun j hj => by rw [hD1, ud_ne hj])] at h1
  exact h1
theorem h_putz (O : Ok G tA z E cc own nL p s m args c) (hH : Hp G tA z L D s.heap H locs) {i ci k : Nat} {fs : List Sf} {v : Int32} {D1 : Dm} (hi : L[i]? = some (.inr (.inr (ci, fs)))) (hf : fs[k]? = some none) (fl : FL own index ci k .boolean false) (hz : zb v) (hD1 : D1 = ud D i k v) (hdg : decode cc pc = .ok (.putfield index, 3))
    (kk : ∀ (H1 : Heap) (locs1 : List Loc), Hp G tA z L D1 s.heap H1 locs1 → W p l e R s m args below meth c H1 locs1 0 slots Q (F0 m (pc + 3) ls rest)) : W p l e R s m args below meth c H locs 0 slots Q (F0 m pc ls (.int v :: .ref (z + i) :: rest)) := by
  obtain ⟨hx, hb, -, hown, hts, hK, -⟩ := O
  obtain ⟨C, T, N, ty, ⟨hc, hin, hty, hnm⟩, hk, hlk, hd, hfin, -⟩ := fl
  refine W.sized hH.2.2.1 (fun e0 => ?_)
  refine va_put hx hb hts hin ty hty hnm hown hK hH.2.1 mw_D hH.2.2 i (mw_get hi) hc k hk (hts _ hlk) (fun _ h => h) hfin hd (zb_nar hz) (by rcases hz with rfl | rfl <;> rfl) (by rw [List.length_mapIdx]; exact (List.getElem?_eq_some_iff.mp hf).1) hdg (fun H1 locs1 h1 _ h3 => ?_)
  refine W.sized h3.1 (fun e1 => ?_)
  refine kk H1 locs1 ⟨by rw [e1, ← e0]; exact hH.1, ?_, h3⟩
  rw [mw_set hi (D' := D1) (by rw [obj_set hf, hD1, ud_self]; rfl) (fun j hj => by rw [hD1, ud_ne hj])] at h1
  exact h1
theorem h_iald (O : Ok G tA z E cc own nL p s m args c) (hH : Hp G tA z L D H0 H locs) {i n : Nat} {j : Int32} (hi : L[i]? = some (.inl (0, n))) (hin : inB j n = true) (hdg : decode cc pc = .ok (.iaload, 1))
    (kk : W p l e R s m args below meth c H locs cells slots Q (F0 m (pc + 1) ls (.int (D i j.toNatClampNeg) :: rest))) : W p l e R s m args below meth c H locs cells slots Q (F0 m pc ls (.int j :: .ref (z + i) :: rest)) :=
  va_iald O.1 O.2.1 O.2.2.2.2.2.1 hH.2.1 i 0 (mw_get hi) rfl (inB_ok hin) hdg kk
theorem h_bald (O : Ok G tA z E cc own nL p s m args c) (hH : Hp G tA z L D H0 H locs) {i n : Nat} {j : Int32} (hi : L[i]? = some (.inl (1, n))) (hin : inB j n = true) (hdg : decode cc pc = .ok (.baload, 1))
    (kk : W p l e R s m args below meth c H locs cells slots Q (F0 m (pc + 1) ls (.int (D i j.toNatClampNeg) :: rest))) : W p l e R s m args below meth c H locs cells slots Q (F0 m pc ls (.int j :: .ref (z + i) :: rest)) :=
  va_bald O.1 O.2.1 O.2.2.2.2.2.1 hH.2.1 i 1 (mw_get hi) rfl (inB_ok hin) hdg kk
theorem h_zald (O : Ok G tA z E cc own nL p s m args c) (hH : Hp G tA z L D H0 H locs) {i n : Nat} {j : Int32} (hi : L[i]? = some (.inl (2, n))) (hin : inB j n = true) (hdg : decode cc pc = .ok (.baload, 1))
    (kk : W p l e R s m args below meth c H locs cells slots Q (F0 m (pc + 1) ls (.int (D i j.toNatClampNeg) :: rest))) : W p l e R s m args below meth c H locs cells slots Q (F0 m pc ls (.int j :: .ref (z + i) :: rest)) :=
  va_zald O.1 O.2.1 O.2.2.2.2.2.1 hH.2.1 i 2 (mw_get hi) rfl (inB_ok hin) hdg kk
theorem h_aald (O : Ok G tA z E cc own nL p s m args c) (hH : Hp G tA z L D H0 H locs) {i t q : Nat} {rs : List (Option Nat)} {C : String} {j : Int32} (hi : L[i]? = some (.inr (.inl (t, rs)))) (ht : (tys tA)[t]? = some (tA t, .object C)) (hin : inB j rs.length = true) (hr : rs[j.toNatClampNeg]? = some (some q)) (hdg : decode cc pc = .ok (.aaload, 1))
    (kk : W p l e R s m args below meth c H locs cells slots Q (F0 m (pc + 1) ls (.ref (z + q) :: rest))) : W p l e R s m args below meth c H locs cells slots Q (F0 m pc ls (.int j :: .ref (z + i) :: rest)) := by
  refine va_aldq O.1 O.2.1 O.2.2.2.2.2.1 hH.2.1 i t (mw_get hi) ht (inB_ok hin) hdg ?_
  rw [show (rs.getD j.toNatClampNeg none).map (fun j => z + j) = some (z + q) by rw [List.getD_eq_getElem?_getD, hr]; rfl]
  exact kk
theorem h_iast (O : Ok G tA z E cc own nL p s m args c) (hH : Hp G tA z L D s.heap H locs) {i n : Nat} {j x : Int32} {D1 : Dm} (hi : L[i]? = some (.inl (0, n))) (hin : inB j n = true) (hD1 : D1 = ud D i j.toNatClampNeg x) (hdg : decode cc pc = .ok (.iastore, 1))
    (kk : ∀ (H1 : Heap) (locs1 : List Loc), Hp G tA z L D1 s.heap H1 locs1 → W p l e R s m args below meth c H1 locs1 0 slots Q (F0 m (pc + 1) ls rest)) : W p l e R s m args below meth c H locs 0 slots Q (F0 m pc ls (.int x :: .int j :: .ref (z + i) :: rest)) := by
  refine W.sized hH.2.2.1 (fun e0 => ?_)
  refine va_iast O.1 O.2.1 O.2.2.2.2.2.1 hH.2.1 mw_D hH.2.2 i 0 (mw_get hi) rfl (inB_ok hin) hdg (fun H1 locs1 h1 _ h3 => ?_)
  refine W.sized h3.1 (fun e1 => ?_)
  refine kk H1 locs1 ⟨by rw [e1, ← e0]; exact hH.1, ?_, h3⟩
  rw [mw_set hi (D' := D1) (by rw [hD1, ud_self]; rfl) (fun j hj => by rw [hD1, ud_ne hj])] at h1
  exact h1
theorem h_bast (O : Ok G tA z E cc own nL p s m args c) (hH : Hp G tA z L D s.heap H locs) {i n : Nat} {j x : Int32} {D1 : Dm} (hi : L[i]? = some (.inl (1, n))) (hin : inB j n = true) (hD1 : D1 = ud D i j.toNatClampNeg x.toInt8.toInt32) (hdg : decode cc pc = .ok (.bastore, 1))
    (kk : ∀ (H1 : Heap) (locs1 : List Loc), Hp G tA z L D1 s.heap H1 locs1 → W p l e R s m args below meth c H1 locs1 0 slots Q (F0 m (pc + 1) ls rest)) : W p l e R s m args below meth c H locs 0 slots Q (F0 m pc ls (.int x :: .int j :: .ref (z + i) :: rest)) := by
  refine W.sized hH.2.2.1 (fun e0 => ?_)
  refine va_bast O.1 O.2.1 O.2.2.2.2.2.1 hH.2.1 mw_D hH.2.2 i 1 (mw_get hi) rfl (inB_ok hin) hdg (fun H1 locs1 h1 _ h3 => ?_)
  refine W.sized h3.1 (fun e1 => ?_)
  refine kk H1 locs1 ⟨by rw [e1, ← e0]; exact hH.1, ?_, h3⟩
  rw [mw_set hi (D' := D1) (by rw [hD1, ud_self, vp_nar_byte]; rfl) (fun j hj => by rw [hD1, ud_ne hj])] at h1
  exact h1
theorem h_zast (O : Ok G tA z E cc own nL p s m args c) (hH : Hp G tA z L D s.heap H locs) {i n : Nat} {j x : Int32} {D1 : Dm} (hi : L[i]? = some (.inl (2, n))) (hin : inB j n = true) (hz : zb x) (hD1 : D1 = ud D i j.toNatClampNeg x) (hdg : decode cc pc = .ok (.bastore, 1))
    (kk : ∀ (H1 : Heap) (locs1 : List Loc), Hp G tA z L D1 s.heap H1 locs1 → W p l e R s m args below meth c H1 locs1 0 slots Q (F0 m (pc + 1) ls rest)) : W p l e R s m args below meth c H locs 0 slots Q (F0 m pc ls (.int x :: .int j :: .ref (z + i) :: rest)) := by
  refine W.sized hH.2.2.1 (fun e0 => ?_)
  refine va_zast O.1 O.2.1 O.2.2.2.2.2.1 hH.2.1 mw_D hH.2.2 i 2 (mw_get hi) rfl (inB_ok hin) hdg (fun H1 locs1 h1 _ h3 => ?_)
  refine W.sized h3.1 (fun e1 => ?_)
  refine kk H1 locs1 ⟨by rw [e1, ← e0]; exact hH.1, ?_, h3⟩
  rw [mw_set hi (D' := D1) (by rw [hD1, ud_self, zb_nar2 hz]; rfl) (fun j hj => by rw [hD1, ud_ne hj])] at h1
  exact h1
theorem h_alen (O : Ok G tA z E cc own nL p s m args c) (hH : Hp G tA z L D H0 H locs) {i t n : Nat} {ty : FieldType} {v : Int32} (hi : L[i]? = some (.inl (t, n))) (ht : (tys tA)[t]? = some (tA t, ty)) (hv : Int32.ofNat n = v) (hdg : decode cc pc = .ok (.arraylength, 1))
    (kk : W p l e R s m args below meth c H locs cells slots Q (F0 m (pc + 1) ls (.int v :: rest))) : W p l e R s m args below meth c H locs cells slots Q (F0 m pc ls (.ref (z + i) :: rest)) :=
  va_alen O.1 O.2.1 O.2.2.2.2.2.1 hH.2.1 i t (mw_get hi) ht hv hdg kk
theorem h_alenr (O : Ok G tA z E cc own nL p s m args c) (hH : Hp G tA z L D H0 H locs) {i t : Nat} {rs : List (Option Nat)} {ty : FieldType} {v : Int32} (hi : L[i]? = some (.inr (.inl (t, rs)))) (ht : (tys tA)[t]? = some (tA t, ty)) (hv : Int32.ofNat rs.length = v) (hdg : decode cc pc = .ok (.arraylength, 1))
    (kk : W p l e R s m args below meth c H locs cells slots Q (F0 m (pc + 1) ls (.int v :: rest))) : W p l e R s m args below meth c H locs cells slots Q (F0 m pc ls (.ref (z + i) :: rest)) :=
  va_alen O.1 O.2.1 O.2.2.2.2.2.1 hH.2.1 i t (mw_get hi) ht hv hdg kk
theorem MLV.cw {C : String} {y : MethodName} {bytes : ByteArray} {mL : Nat} {rt : Option FieldType} {n d mc ms : Nat} (ml : MLV own index C y bytes mL rt n) (hts : ∀ w ∈ WS, w.before args s = true) (hR : d + 1 ≤ R.frames ∧ 64 * (d + 1) ≤ R.locals) : CallW R s args own C index y bytes mL rt (.code y bytes mL rt :: WS) (rmC d mc ms) mc ms n := by
  obtain ⟨h1, h2, h3, h4, h5, h6, h7, h8⟩ := ml
  refine cwV n hts (ws_goodIn ?_) rfl rfl rfl ⟨h6, h7⟩ ⟨hR.1, by show 8 + (mL + 11) + 64 * d ≤ _; omega⟩
  intro w hw
  simp only [wsV, List.mem_append, List.mem_cons, List.not_mem_nil, or_false] at hw
  rcases hw with (rfl | rfl | rfl | rfl) | rfl | hw
  · exact h1
  · exact h2
  · exact h3
  · exact h4
  · exact h5
  · exact hw
theorem MLS.cw {y : MethodName} {bytes : ByteArray} {mL : Nat} {rt : Option FieldType} {n d mc ms : Nat} (ml : MLS own index y bytes mL rt n) (hts : ∀ w ∈ WS, w.before args s = true) (hR : d + 1 ≤ R.frames ∧ 64 * (d + 1) ≤ R.locals) : CallB R s args own index y bytes mL rt (.code y bytes mL rt :: WS) (rmC d mc ms) mc ms n ∧ (Cond.static y).before args s = true := by
  obtain ⟨h1, h2, h3, h4, h5, h6⟩ := ml
  refine ⟨callB_of n hts (ws_goodIn ?_) rfl rfl rfl (hts _ h3) (hts _ h1) h5 ⟨hR.1, by show 8 + (mL + 11) + 64 * d ≤ _; omega⟩, hts _ h2⟩
  intro w hw
  rcases List.mem_cons.mp hw with rfl | hw
  · exact h4
  · exact hw
theorem h_callVi {y : MethodName} {C : String} {bytes : ByteArray} {mL : Nat} {rt : Option FieldType} {n d i ci : Nat} {r : Int32} {D1 : Dm} {As st : List Value} {fs : List Sf} {T : u_T} {N : Nat} (O : Ok G tA z E cc own nL p s m args c) (hH : Hp G tA z L D s.heap H locs) (hM : CtI l y bytes mL rt G tA z E d 0 0 (.ref (z + i) :: As) L D r L D1) (ml : MLV own index C y bytes mL rt n) (hi : L[i]? = some (.inr (.inr (ci, fs)))) (hc : classes[ci]? = some (C, T, N)) (hn : As.length = n) (hsz : ls.size = nL) (hst : st = As.reverse ++ .ref (z + i) :: rest) (hR : d + 1 ≤ R.frames ∧ 64 * (d + 1) ≤ R.locals) (hrest : (rest.map fun v => v.category).sum ≤ 8) (hdg : decode cc pc = .ok (.invokevirtual index, 3))
    (kk : ∀ (H1 : Heap) (locs1 : List Loc), Hp G tA z L D1 s.heap H1 locs1 → W p l e R s m args below meth c H1 locs1 0 0 Q (F0 m (pc + 3) ls (.int r :: rest))) : W p l e R s m args below meth c H locs 0 0 Q (F0 m pc ls st) := by
  subst hst
  have hts := O.2.2.2.2.1
  refine va_calli (va_runV (As := As) (rest := rest) ⟨O.1, O.2.1, O.2.2.1, O.2.2.2.1, hts⟩ hM (ml.cw hts hR) ⟨Wd_blind, va_recv O.2.2.2.2.2.1 hH.2.1 hc (mw_get hi), fun U hU hW => ⟨rfl, hH.wd O hU hW⟩⟩ rfl hn hsz rfl (lv_room hrest) hdg ⟨Nat.zero_le _, Nat.zero_le _⟩) hH.2.2 (fun q _ h => h) (fun q h => h) (fun r1 u t H1 locs1 ht hvm hw hB hz1 hk1 hS => ?_)
  subst hw
  obtain ⟨b1, b2, -, -⟩ := hB
  rw [ht] at b1 b2
  exact kk H1 locs1 ⟨b1, b2, hS⟩
theorem h_callVv {y : MethodName} {C : String} {bytes : ByteArray} {mL : Nat} {n d i ci : Nat} {D1 : Dm} {As st : List Value} {fs : List Sf} {T : u_T} {N : Nat} (O : Ok G tA z E cc own nL p s m args c) (hH : Hp G tA z L D s.heap H locs) (hM : CtV l y bytes mL G tA z E d 0 0 (.ref (z + i) :: As) L D L D1) (ml : MLV own index C y bytes mL none n) (hi : L[i]? = some (.inr (.inr (ci, fs)))) (hc : classes[ci]? = some (C, T, N)) (hn : As.length = n) (hsz : ls.size = nL) (hst : st = As.reverse ++ .ref (z + i) :: rest) (hR : d + 1 ≤ R.frames ∧ 64 * (d + 1) ≤ R.locals) (hrest : (rest.map fun v => v.category).sum ≤ 8) (hdg : decode cc pc = .ok (.invokevirtual index, 3))
    (kk : ∀ (H1 : Heap) (locs1 : List Loc), Hp G tA z L D1 s.heap H1 locs1 → W p l e R s m args below meth c H1 locs1 0 0 Q (F0 m (pc + 3) ls rest)) : W p l e R s m args below meth c H locs 0 0 Q (F0 m pc ls st) := by
  subst hst
  have hts := O.2.2.2.2.1
  refine va_callv (va_runV (As := As) (rest := rest) ⟨O.1, O.2.1, O.2.2.1, O.2.2.2.1, hts⟩ hM (ml.cw hts hR) ⟨Wd_blind, va_recv O.2.2.2.2.2.1 hH.2.1 hc (mw_get hi), fun U hU hW => ⟨rfl, hH.wd O hU hW⟩⟩ rfl hn hsz rfl (lv_room hrest) hdg ⟨Nat.zero_le _, Nat.zero_le _⟩) hH.2.2 (fun q _ h => h) (fun q h => h) (fun u t H1 locs1 ht hvm hw hB hz1 hk1 hS => ?_)
  obtain ⟨b1, b2, -, -⟩ := hB
  rw [ht] at b1 b2
  exact kk H1 locs1 ⟨b1, b2, hS⟩
theorem h_callSi {y : MethodName} {bytes : ByteArray} {mL : Nat} {rt : Option FieldType} {n d : Nat} {r : Int32} {D1 : Dm} {As st : List Value} (O : Ok G tA z E cc own nL p s m args c) (hH : Hp G tA z L D s.heap H locs) (hM : CtI l y bytes mL rt G tA z E d 0 0 As L D r L D1) (ml : MLS own index y bytes mL rt n) (hn : As.length = n) (hsz : ls.size = nL) (hst : st = As.reverse ++ rest) (hR : d + 1 ≤ R.frames ∧ 64 * (d + 1) ≤ R.locals) (hrest : (rest.map fun v => v.category).sum ≤ 8) (hdg : decode cc pc = .ok (.invokestatic index, 3))
    (kk : ∀ (H1 : Heap) (locs1 : List Loc), Hp G tA z L D1 s.heap H1 locs1 → W p l e R s m args below meth c H1 locs1 0 0 Q (F0 m (pc + 3) ls (.int r :: rest))) : W p l e R s m args below meth c H locs 0 0 Q (F0 m pc ls st) := by
  subst hst
  have hts := O.2.2.2.2.1
  refine va_calli (a := As.toArray) (va_runS (As := As) (rest := rest) ⟨O.1, O.2.1, O.2.2.1, O.2.2.2.1, hts⟩ hM (ml.cw hts hR) ⟨Wd_blind, fun U hU hW => ⟨rfl, hH.wd O hU hW⟩⟩ rfl hn hsz rfl (lv_room hrest) hdg ⟨Nat.zero_le _, Nat.zero_le _⟩) hH.2.2 (fun q _ h => h) (fun q h => h) (fun r1 u t H1 locs1 ht hvm hw hB hz1 hk1 hS => ?_)
  subst hw
  obtain ⟨b1, b2, -, -⟩ := hB
  rw [ht] at b1 b2
  exact kk H1 locs1 ⟨b1, b2, hS⟩
theorem h_callSv {y : MethodName} {bytes : ByteArray} {mL : Nat} {n d : Nat} {D1 : Dm} {As st : List Value} (O : Ok G tA z E cc own nL p s m args c) (hH : Hp G tA z L D s.heap H locs) (hM : CtV l y bytes mL G tA z E d 0 0 As L D L D1) (ml : MLS own index y bytes mL none n) (hn : As.length = n) (hsz : ls.size = nL) (hst : st = As.reverse ++ rest) (hR : d + 1 ≤ R.frames ∧ 64 * (d + 1) ≤ R.locals) (hrest : (rest.map fun v => v.category).sum ≤ 8) (hdg : decode cc pc = .ok (.invokestatic index, 3))
    (kk : ∀ (H1 : Heap) (locs1 : List Loc), Hp G tA z L D1 s.heap H1 locs1 → W p l e R s m args below meth c H1 locs1 0 0 Q (F0 m (pc + 3) ls rest)) : W p l e R s m args below meth c H locs 0 0 Q (F0 m pc ls st) := by
  subst hst
  have hts := O.2.2.2.2.1
  refine va_callv (a := As.toArray) (va_runS (As := As) (rest := rest) ⟨O.1, O.2.1, O.2.2.1, O.2.2.2.1, hts⟩ hM (ml.cw hts hR) ⟨Wd_blind, fun U hU hW => ⟨rfl, hH.wd O hU hW⟩⟩ rfl hn hsz rfl (lv_room hrest) hdg ⟨Nat.zero_le _, Nat.zero_le _⟩) hH.2.2 (fun q _ h => h) (fun q h => h) (fun u t H1 locs1 ht hvm hw hB hz1 hk1 hS => ?_)
  obtain ⟨b1, b2, -, -⟩ := hB
  rw [ht] at b1 b2
  exact kk H1 locs1 ⟨b1, b2, hS⟩
theorem h_iret {v : Int32} (O : Ok G tA z E cc own nL p s m args c) (hr : meth.sig.returnType = some .int) (hlk : meth.locks = false) (hH : Hp G tA z L D s.heap H locs) (hdg : decode cc pc = .ok (.ireturn, 1)) :
    W p l e R s m args below meth c H locs cells slots (MQ below (va_Qi (fun r' (_ : Unit) => r' = v) (fun _ t => Wd G tA z E L D t) (fun q => z ≤ q)) args s cells slots (fun q => z ≤ q)) (F0 m pc ls [.int v]) :=
  W.iret O.1 O.2.1 hr (fun t ht hW => ⟨⟨v, (), rfl, rfl, hH.wd O ht hW⟩, hH.2.2.F ht⟩) hH.2.2.2.2 hdg hlk
theorem h_zret {v : Int32} (O : Ok G tA z E cc own nL p s m args c) (hr : meth.sig.returnType = some .boolean) (hlk : meth.locks = false) (hz : zb v) (hH : Hp G tA z L D s.heap H locs) (hdg : decode cc pc = .ok (.ireturn, 1)) :
    W p l e R s m args below meth c H locs cells slots (MQ below (va_Qi (fun r' (_ : Unit) => r' = v) (fun _ t => Wd G tA z E L D t) (fun q => z ≤ q)) args s cells slots (fun q => z ≤ q)) (F0 m pc ls [.int v]) :=
  W.zret O.1 O.2.1 hr (zb_nar hz) (fun t ht hW => ⟨⟨v, (), rfl, rfl, hH.wd O ht hW⟩, hH.2.2.F ht⟩) hH.2.2.2.2 hdg hlk
theorem h_vret (O : Ok G tA z E cc own nL p s m args c) (hr : meth.sig.returnType = none) (hlk : meth.locks = false) (hH : Hp G tA z L D s.heap H locs) (hdg : decode cc pc = .ok (.return_, 1)) :
    W p l e R s m args below meth c H locs cells slots (MQ below (va_Qv (fun (_ : Unit) => True) (fun _ t => Wd G tA z E L D t) (fun q => z ≤ q)) args s cells slots (fun q => z ≤ q)) (F0 m pc ls []) :=
  W.vret O.1 O.2.1 hr (fun t ht hW => ⟨⟨(), rfl, trivial, hH.wd O ht hW⟩, hH.2.2.F ht⟩) hH.2.2.2.2 hdg hlk
end BASE
/-- a block of a method that answers an int, or nothing: from pc on it comes to its end -/
def BI (G : va_G) (tA : Nat → ClassId) (z : Nat) (E : Ex) (p : Program) (l : Launch) (e : Env) (R : Room) (s : State) (m : MethodId) (args : Array Value) (below : List Frame) (meth : Method) (c : Code) (L : List Sh) (D : Dm) (r : Int32) (D' : Dm) (nL pc : Nat) (lv : List (Nat × Value)) (st : List Value) : Prop :=
  ∀ (H : Heap) (locs : List Loc) (ls : Array Slot), Hp G tA z L D s.heap H locs → lv_has ls nL lv → W p l e R s m args below meth c H locs 0 0 (MQ below (va_Qi (fun r' (_ : Unit) => r' = r) (fun _ t => Wd G tA z E L D' t) (fun q => z ≤ q)) args s 0 0 (fun q => z ≤ q)) (F0 m pc ls st)
def BV (G : va_G) (tA : Nat → ClassId) (z : Nat) (E : Ex) (p : Program) (l : Launch) (e : Env) (R : Room) (s : State) (m : MethodId) (args : Array Value) (below : List Frame) (meth : Method) (c : Code) (L : List Sh) (D : Dm) (D' : Dm) (nL pc : Nat) (lv : List (Nat × Value)) (st : List Value) : Prop :=
  ∀ (H : Heap) (locs : List Loc) (ls : Array Slot), Hp G tA z L D s.heap H locs → lv_has ls nL lv → W p l e R s m args below meth c H locs 0 0 (MQ below (va_Qv (fun (_ : Unit) => True) (fun _ t => Wd G tA z E L D' t) (fun q => z ≤ q)) args s 0 0 (fun q => z ≤ q)) (F0 m pc ls st)
theorem ct_BI {l : Launch} {y : MethodName} {cc : ByteArray} {mL : Nat} {rt : Option FieldType} {G : va_G} {tA : Nat → ClassId} {z : Nat} {E : Ex} {d : Nat} {av : List Value} {L : List Sh} {D : Dm} {r : Int32} {D' : Dm} (hy : plainName y.cls = true) (hav : (lg_sl av).length ≤ mL)
    (body : ∀ p e s m args below meth c, Ok G tA z E cc y.cls mL p s m args c → meth.sig.returnType = rt → meth.locks = false → BI G tA z E p l e (rmC d 0 0) s m args below meth c L D r D' mL 0 (lv_args 0 av) []) : CtI l y cc mL rt G tA z E d 0 0 av L D r L D' := by
  refine Met.ofW (cc := cc) (maxL := mL) (ret := rt) hy rfl ?_
  intro p e s m args below meth c s₁ B hml hv
  obtain ⟨rfl, hsz, hP, hK, hB⟩ := hv
  have hts := atoms_spec (ws := .code y cc mL rt :: WS) B.pre
  have hown : s.vm.findClass y.cls = some m.cls := findClass_of_methodNamed B.named
  have hl := lv_entry av (n := mL) hav
  rw [lg_entry_eq]
  exact body p e s m _ below meth c ⟨B.exec, B.bytes, hml, hown, fun w hw => hts w (List.mem_cons_of_mem _ hw), hK, hB, by omega⟩ B.returns B.notSynchronized s.heap [] _ ⟨hsz, hP, va_S.rf⟩ hl
theorem ct_BV {l : Launch} {y : MethodName} {cc : ByteArray} {mL : Nat} {G : va_G} {tA : Nat → ClassId} {z : Nat} {E : Ex} {d : Nat} {av : List Value} {L : List Sh} {D : Dm} {D' : Dm} (hy : plainName y.cls = true) (hav : (lg_sl av).length ≤ mL)
    (body : ∀ p e s m args below meth c, Ok G tA z E cc y.cls mL p s m args c → meth.sig.returnType = none → meth.locks = false → BV G tA z E p l e (rmC d 0 0) s m args below meth c L D D' mL 0 (lv_args 0 av) []) : CtV l y cc mL G tA z E d 0 0 av L D L D' := by
  refine Met.ofW (cc := cc) (maxL := mL) (ret := none) hy rfl ?_
  intro p e s m args below meth c s₁ B hml hv
  obtain ⟨rfl, hsz, hP, hK, hB⟩ := hv
  have hts := atoms_spec (ws := .code y cc mL none :: WS) B.pre
  have hown : s.vm.findClass y.cls = some m.cls := findClass_of_methodNamed B.named
  have hl := lv_entry av (n := mL) hav
  rw [lg_entry_eq]
  exact body p e s m _ below meth c ⟨B.exec, B.bytes, hml, hown, fun w hw => hts w (List.mem_cons_of_mem _ hw), hK, hB, by omega⟩ B.returns B.notSynchronized s.heap [] _ ⟨hsz, hP, va_S.rf⟩ hl
