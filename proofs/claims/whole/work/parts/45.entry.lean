theorem en_nest : ∀ q ∈ nestM, Cond.methodLinkNest q.1 q.2.1 q.2.2 "WordLearner" ∈ lw_tbl := by decide +kernel
theorem en_over : ∀ C ∈ overs, Cond.arrayOver (.object C) ∈ lw_tbl := by decide +kernel
theorem en_decl : ∀ x ∈ decls, Cond.declares x ∈ lw_tbl := by decide +kernel
theorem en_fln : Cond.fieldLinkNest "WordLearner$Asker" 36 "WordLearner" "POWERS_OF_3" "[I" "WordLearner" ∈ lw_tbl := List.mem_of_getElem? (i := 1012) (by decide +kernel)
def tmS (i : Nat) : Term := match strs[i]? with
  | some q => .string q.1 q.2.1
  | none => .string "" 0
def FLC : List Cond := flatC (Jvm.Cond.and given_1 narrow_1)
theorem en_sref : ∀ k, k < 14 → ∀ q, strs[k]? = some q → Cond.stringRef q.1 q.2.1 q.2.2 ∈ lw_tbl := by
  have h : ∀ k, k < 14 → (match strs[k]? with | some q => decide (Cond.stringRef q.1 q.2.1 q.2.2 ∈ lw_tbl) | none => true) = true := by decide +kernel
  intro k hk q hq
  have h1 := h k hk
  rw [hq] at h1
  exact of_decide_eq_true h1
theorem en_ex : ∀ i, i < 14 → Cond.exactly (tmS i) "java/lang/String" ∈ FLC := by decide +kernel
theorem en_co : ∀ i, i < 14 → Cond.eq (.field (tmS i) "java/lang/String" "coder" "B") (.int 0) ∈ FLC := by decide +kernel
theorem en_ar : ∀ i, i < 14 → Cond.arrayOf (.field (tmS i) "java/lang/String" "value" "[B") .byte ∈ FLC := by decide +kernel
theorem en_le : ∀ i, i < 14 → Cond.eq (.length (.field (tmS i) "java/lang/String" "value" "[B")) (.int (Int32.ofNat (slen.getD i 0))) ∈ FLC := by decide +kernel
theorem en_el_0 : ∀ j, j < slen.getD 0 0 → Cond.eq (.elem (.field (tmS 0) "java/lang/String" "value" "[B") (.int (Int32.ofNat j))) (.int ((sbyt.getD 0 []).getD j 0)) ∈ FLC := by decide +kernel
theorem en_el_1 : ∀ j, j < slen.getD 1 0 → Cond.eq (.elem (.field (tmS 1) "java/lang/String" "value" "[B") (.int (Int32.ofNat j))) (.int ((sbyt.getD 1 []).getD j 0)) ∈ FLC := by decide +kernel
theorem en_el_2 : ∀ j, j < slen.getD 2 0 → Cond.eq (.elem (.field (tmS 2) "java/lang/String" "value" "[B") (.int (Int32.ofNat j))) (.int ((sbyt.getD 2 []).getD j 0)) ∈ FLC := by decide +kernel
theorem en_el_3 : ∀ j, j < slen.getD 3 0 → Cond.eq (.elem (.field (tmS 3) "java/lang/String" "value" "[B") (.int (Int32.ofNat j))) (.int ((sbyt.getD 3 []).getD j 0)) ∈ FLC := by decide +kernel
theorem en_el_4 : ∀ j, j < slen.getD 4 0 → Cond.eq (.elem (.field (tmS 4) "java/lang/String" "value" "[B") (.int (Int32.ofNat j))) (.int ((sbyt.getD 4 []).getD j 0)) ∈ FLC := by decide +kernel
theorem en_el_5 : ∀ j, j < slen.getD 5 0 → Cond.eq (.elem (.field (tmS 5) "java/lang/String" "value" "[B") (.int (Int32.ofNat j))) (.int ((sbyt.getD 5 []).getD j 0)) ∈ FLC := by decide +kernel
theorem en_el_6 : ∀ j, j < slen.getD 6 0 → Cond.eq (.elem (.field (tmS 6) "java/lang/String" "value" "[B") (.int (Int32.ofNat j))) (.int ((sbyt.getD 6 []).getD j 0)) ∈ FLC := by decide +kernel
theorem en_el_7 : ∀ j, j < slen.getD 7 0 → Cond.eq (.elem (.field (tmS 7) "java/lang/String" "value" "[B") (.int (Int32.ofNat j))) (.int ((sbyt.getD 7 []).getD j 0)) ∈ FLC := by decide +kernel
theorem en_el_8 : ∀ j, j < slen.getD 8 0 → Cond.eq (.elem (.field (tmS 8) "java/lang/String" "value" "[B") (.int (Int32.ofNat j))) (.int ((sbyt.getD 8 []).getD j 0)) ∈ FLC := by decide +kernel
theorem en_el_9 : ∀ j, j < slen.getD 9 0 → Cond.eq (.elem (.field (tmS 9) "java/lang/String" "value" "[B") (.int (Int32.ofNat j))) (.int ((sbyt.getD 9 []).getD j 0)) ∈ FLC := by decide +kernel
theorem en_el_10 : ∀ j, j < slen.getD 10 0 → Cond.eq (.elem (.field (tmS 10) "java/lang/String" "value" "[B") (.int (Int32.ofNat j))) (.int ((sbyt.getD 10 []).getD j 0)) ∈ FLC := by decide +kernel
theorem en_el_11 : ∀ j, j < slen.getD 11 0 → Cond.eq (.elem (.field (tmS 11) "java/lang/String" "value" "[B") (.int (Int32.ofNat j))) (.int ((sbyt.getD 11 []).getD j 0)) ∈ FLC := by decide +kernel
theorem en_el_12 : ∀ j, j < slen.getD 12 0 → Cond.eq (.elem (.field (tmS 12) "java/lang/String" "value" "[B") (.int (Int32.ofNat j))) (.int ((sbyt.getD 12 []).getD j 0)) ∈ FLC := by decide +kernel
theorem en_el_13_0 : ∀ j, j < 9 → Cond.eq (.elem (.field (tmS 13) "java/lang/String" "value" "[B") (.int (Int32.ofNat (0 + j)))) (.int ((sbyt.getD 13 []).getD (0 + j) 0)) ∈ FLC := by decide +kernel
theorem en_el_13_9 : ∀ j, j < 9 → Cond.eq (.elem (.field (tmS 13) "java/lang/String" "value" "[B") (.int (Int32.ofNat (9 + j)))) (.int ((sbyt.getD 13 []).getD (9 + j) 0)) ∈ FLC := by decide +kernel
theorem en_el_13_18 : ∀ j, j < 9 → Cond.eq (.elem (.field (tmS 13) "java/lang/String" "value" "[B") (.int (Int32.ofNat (18 + j)))) (.int ((sbyt.getD 13 []).getD (18 + j) 0)) ∈ FLC := by decide +kernel
theorem en_el_13_27 : ∀ j, j < 9 → Cond.eq (.elem (.field (tmS 13) "java/lang/String" "value" "[B") (.int (Int32.ofNat (27 + j)))) (.int ((sbyt.getD 13 []).getD (27 + j) 0)) ∈ FLC := by decide +kernel
theorem en_el_13_36 : ∀ j, j < 9 → Cond.eq (.elem (.field (tmS 13) "java/lang/String" "value" "[B") (.int (Int32.ofNat (36 + j)))) (.int ((sbyt.getD 13 []).getD (36 + j) 0)) ∈ FLC := by decide +kernel
theorem en_el_13_45 : ∀ j, j < 9 → Cond.eq (.elem (.field (tmS 13) "java/lang/String" "value" "[B") (.int (Int32.ofNat (45 + j)))) (.int ((sbyt.getD 13 []).getD (45 + j) 0)) ∈ FLC := by decide +kernel
theorem en_el_13_54 : ∀ j, j < 9 → Cond.eq (.elem (.field (tmS 13) "java/lang/String" "value" "[B") (.int (Int32.ofNat (54 + j)))) (.int ((sbyt.getD 13 []).getD (54 + j) 0)) ∈ FLC := by decide +kernel
theorem en_el_13 : ∀ j, j < slen.getD 13 0 → Cond.eq (.elem (.field (tmS 13) "java/lang/String" "value" "[B") (.int (Int32.ofNat j))) (.int ((sbyt.getD 13 []).getD j 0)) ∈ FLC := by
  intro j hj
  have hj : j < 63 := hj
  by_cases h0 : j < 9
  · have h := en_el_13_0 (j - 0) (by omega)
    rw [show 0 + (j - 0) = j by omega] at h
    exact h
  by_cases h9 : j < 18
  · have h := en_el_13_9 (j - 9) (by omega)
    rw [show 9 + (j - 9) = j by omega] at h
    exact h
  by_cases h18 : j < 27
  · have h := en_el_13_18 (j - 18) (by omega)
    rw [show 18 + (j - 18) = j by omega] at h
    exact h
  by_cases h27 : j < 36
  · have h := en_el_13_27 (j - 27) (by omega)
    rw [show 27 + (j - 27) = j by omega] at h
    exact h
  by_cases h36 : j < 45
  · have h := en_el_13_36 (j - 36) (by omega)
    rw [show 36 + (j - 36) = j by omega] at h
    exact h
  by_cases h45 : j < 54
  · have h := en_el_13_45 (j - 45) (by omega)
    rw [show 45 + (j - 45) = j by omega] at h
    exact h
  by_cases h54 : j < 63
  · have h := en_el_13_54 (j - 54) (by omega)
    rw [show 54 + (j - 54) = j by omega] at h
    exact h
  exact absurd hj (by omega)
theorem en_el : ∀ i, i < 14 → ∀ j, j < slen.getD i 0 → Cond.eq (.elem (.field (tmS i) "java/lang/String" "value" "[B") (.int (Int32.ofNat j))) (.int ((sbyt.getD i []).getD j 0)) ∈ FLC := fun i hi => match i, hi with
  | 0, _ => en_el_0
  | 1, _ => en_el_1
  | 2, _ => en_el_2
  | 3, _ => en_el_3
  | 4, _ => en_el_4
  | 5, _ => en_el_5
  | 6, _ => en_el_6
  | 7, _ => en_el_7
  | 8, _ => en_el_8
  | 9, _ => en_el_9
  | 10, _ => en_el_10
  | 11, _ => en_el_11
  | 12, _ => en_el_12
  | 13, _ => en_el_13
  | i + 14, hi => absurd hi (by omega)
theorem en_ne_0 : ∀ j, j < 14 → 0 ≠ j → (Cond.not (Cond.eq (tmS 0) (tmS j)) ∈ FLC ∨ Cond.not (Cond.eq (tmS j) (tmS 0)) ∈ FLC) := by decide +kernel
theorem en_ne_1 : ∀ j, j < 14 → 1 ≠ j → (Cond.not (Cond.eq (tmS 1) (tmS j)) ∈ FLC ∨ Cond.not (Cond.eq (tmS j) (tmS 1)) ∈ FLC) := by decide +kernel
theorem en_ne_2 : ∀ j, j < 14 → 2 ≠ j → (Cond.not (Cond.eq (tmS 2) (tmS j)) ∈ FLC ∨ Cond.not (Cond.eq (tmS j) (tmS 2)) ∈ FLC) := by decide +kernel
theorem en_ne_3 : ∀ j, j < 14 → 3 ≠ j → (Cond.not (Cond.eq (tmS 3) (tmS j)) ∈ FLC ∨ Cond.not (Cond.eq (tmS j) (tmS 3)) ∈ FLC) := by decide +kernel
theorem en_ne_4 : ∀ j, j < 14 → 4 ≠ j → (Cond.not (Cond.eq (tmS 4) (tmS j)) ∈ FLC ∨ Cond.not (Cond.eq (tmS j) (tmS 4)) ∈ FLC) := by decide +kernel
theorem en_ne_5 : ∀ j, j < 14 → 5 ≠ j → (Cond.not (Cond.eq (tmS 5) (tmS j)) ∈ FLC ∨ Cond.not (Cond.eq (tmS j) (tmS 5)) ∈ FLC) := by decide +kernel
theorem en_ne_6 : ∀ j, j < 14 → 6 ≠ j → (Cond.not (Cond.eq (tmS 6) (tmS j)) ∈ FLC ∨ Cond.not (Cond.eq (tmS j) (tmS 6)) ∈ FLC) := by decide +kernel
theorem en_ne_7 : ∀ j, j < 14 → 7 ≠ j → (Cond.not (Cond.eq (tmS 7) (tmS j)) ∈ FLC ∨ Cond.not (Cond.eq (tmS j) (tmS 7)) ∈ FLC) := by decide +kernel
theorem en_ne_8 : ∀ j, j < 14 → 8 ≠ j → (Cond.not (Cond.eq (tmS 8) (tmS j)) ∈ FLC ∨ Cond.not (Cond.eq (tmS j) (tmS 8)) ∈ FLC) := by decide +kernel
theorem en_ne_9 : ∀ j, j < 14 → 9 ≠ j → (Cond.not (Cond.eq (tmS 9) (tmS j)) ∈ FLC ∨ Cond.not (Cond.eq (tmS j) (tmS 9)) ∈ FLC) := by decide +kernel
theorem en_ne_10 : ∀ j, j < 14 → 10 ≠ j → (Cond.not (Cond.eq (tmS 10) (tmS j)) ∈ FLC ∨ Cond.not (Cond.eq (tmS j) (tmS 10)) ∈ FLC) := by decide +kernel
theorem en_ne_11 : ∀ j, j < 14 → 11 ≠ j → (Cond.not (Cond.eq (tmS 11) (tmS j)) ∈ FLC ∨ Cond.not (Cond.eq (tmS j) (tmS 11)) ∈ FLC) := by decide +kernel
theorem en_ne_12 : ∀ j, j < 14 → 12 ≠ j → (Cond.not (Cond.eq (tmS 12) (tmS j)) ∈ FLC ∨ Cond.not (Cond.eq (tmS j) (tmS 12)) ∈ FLC) := by decide +kernel
theorem en_ne_13 : ∀ j, j < 14 → 13 ≠ j → (Cond.not (Cond.eq (tmS 13) (tmS j)) ∈ FLC ∨ Cond.not (Cond.eq (tmS j) (tmS 13)) ∈ FLC) := by decide +kernel
theorem en_ne : ∀ i, i < 14 → ∀ j, j < 14 → i ≠ j → (Cond.not (Cond.eq (tmS i) (tmS j)) ∈ FLC ∨ Cond.not (Cond.eq (tmS j) (tmS i)) ∈ FLC) := fun i hi => match i, hi with
  | 0, _ => en_ne_0
  | 1, _ => en_ne_1
  | 2, _ => en_ne_2
  | 3, _ => en_ne_3
  | 4, _ => en_ne_4
  | 5, _ => en_ne_5
  | 6, _ => en_ne_6
  | 7, _ => en_ne_7
  | 8, _ => en_ne_8
  | 9, _ => en_ne_9
  | 10, _ => en_ne_10
  | 11, _ => en_ne_11
  | 12, _ => en_ne_12
  | 13, _ => en_ne_13
  | i + 14, hi => absurd hi (by omega)
theorem en_l : ∀ i : Nat, i < 14 → slen.getD i 0 < 2 ^ 31 := by decide +kernel
theorem en_p0 : Cond.arrayOf (.static "WordLearner" "POWERS_OF_3" "[I") .int ∈ FLC := by decide +kernel
theorem en_p1 : Cond.eq (.length (.static "WordLearner" "POWERS_OF_3" "[I")) (.int (Int32.ofNat 4)) ∈ FLC := by decide +kernel
theorem en_p2 : ∀ j, j < 4 → Cond.eq (.elem (.static "WordLearner" "POWERS_OF_3" "[I") (.int (Int32.ofNat j))) (.int (([1, 3, 9, 27] : List Int32).getD j 0)) ∈ FLC := by decide +kernel
theorem en_w0 : Cond.arrayOf (.static "WordLearner" "WAYS_TO_NAME" "[I") .int ∈ FLC := by decide +kernel
theorem en_w1 : Cond.eq (.length (.static "WordLearner" "WAYS_TO_NAME" "[I")) (.int (Int32.ofNat 6)) ∈ FLC := by decide +kernel
theorem en_w2 : ∀ j, j < 6 → Cond.eq (.elem (.static "WordLearner" "WAYS_TO_NAME" "[I") (.int (Int32.ofNat j))) (.int (([1, 1, 2, 5, 15, 52] : List Int32).getD j 0)) ∈ FLC := by decide +kernel
theorem en_c0 : Cond.eq (.static "java/lang/String" "COMPACT_STRINGS" "Z") (.int 1) ∈ FLC := by decide +kernel
theorem en_s0 : Cond.isRef (.static "jdk/internal/util/Preconditions" "SIOOBE_FORMATTER" "Ljava/util/function/BiFunction;") ∈ FLC := by decide +kernel
/-- an array class of numbers, an array class of objects -/
theorem en_arr {s : State} {args : Array Value} {ty : FieldType} (hra : ∀ c, va_RA s c ty = (s.vm.findClass ("[" ++ ty.toString) = some c)) (h : (Cond.arrayClass ty).before args s = true) : ∃ c, ArrOfT s c ty ∧ va_RA s c ty := by
  obtain ⟨c, k, comp, h1, h2, h3⟩ := Cond.arrayClass_spec h
  exact ⟨c, fun n z => ⟨fun k h => (by cases h), k, h2, comp, h3⟩, by rw [hra]; exact h1⟩
theorem en_arrO {s : State} {args : Array Value} {C : String} (h : (Cond.arrayOver (.object C)).before args s = true) : ∃ c, ArrOfT s c (.object C) ∧ va_RA s c (.object C) := by
  obtain ⟨comp, c, k, h1, h2, h3, h4, h5⟩ := Cond.arrayOver_spec h
  exact ⟨c, fun n z => ⟨fun k h => (by cases h), k, h3, comp, h4⟩, k, comp, h3, h4, h1, h5⟩
set_option maxHeartbeats 8000000 in
theorem law_ok {p : Program} {s : State} {m : MethodId} {meth : Method} {c : Code} {b L : Nat} {xs : Nat → Int32} (C0 : lw_At p s m meth c b L xs) : ∃ G tA E, Ok G tA s.heap.size E code "WordLearnerLaw" 4 p s m #[Value.ref b] c := by
  obtain ⟨hx, hb, hr, hml, hown, hts, hX, hbl, hlocks, hgv⟩ := C0
  have hws := ws_tbl hts
  have hfl : ∀ w ∈ FLC, w.before #[Value.ref b] s = true := flat_of_before _ hgv
  have hA : ∀ a : Nat, a < s.heap.size → ¬ (fun q : Nat => s.heap.size ≤ q) a := fun a h => Nat.not_le.mpr h
  obtain ⟨c0, i0, k0⟩ := u_known (C := RX0) (T := TX0) (N := 6) (n := 6) hws wsIn0 (hws _ ww_341)
  obtain ⟨c1, i1, k1⟩ := u_known (C := RX1) (T := TX1) (N := 2) (n := 2) hws wsIn1 (hws _ ww_191)
  obtain ⟨c2, i2, k2⟩ := u_known (C := RX2) (T := TX2) (N := 4) (n := 4) hws wsIn2 (hws _ ww_319)
  obtain ⟨c3, i3, k3⟩ := u_known (C := RX3) (T := TX3) (N := 18) (n := 18) hws wsIn3 (hws _ ww_261)
  obtain ⟨c4, i4, k4⟩ := u_known (C := RX4) (T := TX4) (N := 7) (n := 7) hws wsIn4 (hws _ ww_75)
  obtain ⟨c5, i5, k5⟩ := u_known (C := RX5) (T := TX5) (N := 5) (n := 5) hws wsIn5 (hws _ ww_69)
  obtain ⟨c6, i6, k6⟩ := u_known (C := RX6) (T := TX6) (N := 11) (n := 11) hws wsIn6 (hws _ ww_270)
  obtain ⟨c7, i7, k7⟩ := u_known (C := RX7) (T := TX7) (N := 8) (n := 8) hws wsIn7 (hws _ ww_31)
  obtain ⟨c8, i8, k8⟩ := u_known (C := RX8) (T := TX8) (N := 15) (n := 15) hws wsIn8 (hws _ ww_185)
  obtain ⟨c10, i10, k10⟩ := u_known (C := RX10) (T := TX10) (N := 5) (n := 5) hws wsIn10 (hws _ ww_146)
  obtain ⟨c11, i11, k11⟩ := u_known (C := RX11) (T := TX11) (N := 13) (n := 13) hws wsIn11 (hws _ ww_23)
  obtain ⟨c12, i12, k12⟩ := u_known (C := RX12) (T := TX12) (N := 81) (n := 81) hws wsIn12 (hws _ ww_1111)
  obtain ⟨c9, _, kp9, f9, -, g9, -, -, e9, -⟩ := Cond.superclass_spec (sup := RX9) k4.2.1 (hts _ (List.mem_of_getElem? (i := 238) (by decide +kernel)))
  have k9 : u_Kn s RX9 TX9 0 c9 (fun _ => 0) := ⟨fun k hk => absurd hk (Nat.not_lt_zero k), f9, kp9, g9, e9⟩
  have i9 : Nat → Nat := fun _ => 0
  obtain ⟨a0, b0⟩ := en_arr (ty := .int) (fun _ => rfl) (hws _ ww_67)
  obtain ⟨a1, b1⟩ := en_arr (ty := .byte) (fun _ => rfl) (hws _ ww_652)
  obtain ⟨a2, b2⟩ := en_arr (ty := .boolean) (fun _ => rfl) (hws _ ww_1368)
  obtain ⟨a3, b3⟩ := en_arrO (C := RX4) (hts _ (en_over RX4 (by decide)))
  obtain ⟨a4, b4⟩ := en_arrO (C := RX1) (hts _ (en_over RX1 (by decide)))
  obtain ⟨a5, b5⟩ := en_arrO (C := RX10) (hts _ (en_over RX10 (by decide)))
  obtain ⟨a6, b6⟩ := en_arrO (C := RX6) (hts _ (en_over RX6 (by decide)))
  obtain ⟨adK, adV, hS, hev⟩ := vk_Sof (N := 14) (tm := tmS) (len := slen) (byt := sbyt) (A := fun q => s.heap.size ≤ q) en_l (fun i hi => hfl _ (en_ex i hi)) (fun i hi => hfl _ (en_co i hi)) (fun i hi => hfl _ (en_ar i hi)) (fun i hi => hfl _ (en_le i hi)) (fun i hi j hj => hfl _ (en_el i hi j hj)) (fun i j hi hj hij => (en_ne i hi j hj hij).imp (fun h => hfl _ h) (fun h => hfl _ h)) hA
  obtain ⟨tp, etp, hTp⟩ := va_Tof (N := 4) (f := fun j => .int (([1, 3, 9, 27] : List Int32).getD j 0)) (A := fun q => s.heap.size ≤ q) (by decide) (hfl _ en_p0) (va_eqt (hfl _ en_p1)) (fun j hj => va_eqt (hfl _ (en_p2 j hj))) hA
  obtain ⟨tw, etw, hTw⟩ := va_Tof (N := 6) (f := fun j => .int (([1, 1, 2, 5, 15, 52] : List Int32).getD j 0)) (A := fun q => s.heap.size ≤ q) (by decide) (hfl _ en_w0) (va_eqt (hfl _ en_w1)) (fun j hj => va_eqt (hfl _ (en_w2 j hj))) hA
  refine ⟨(fun k => ([c0, c1, c2, c3, c4, c5, c6, c7, c8, c9, c10, c11, c12] : List ClassId).getD k 0, fun k => ([i0, i1, i2, i3, i4, i5, i6, i7, i8, fun _ => 0, i10, i11, i12] : List (Nat → Nat)).getD k (fun _ => 0)), fun t => ([a0, a1, a2, a3, a4, a5, a6] : List ClassId).getD t 0, (adK, adV, tp, tw), hx, hb, hml, hown, hws, ⟨?_, ?_⟩, ⟨fun q hq => va_Nw.of rfl (hts _ (en_nest q hq)), fun C hC => va_AO.of (hts _ (en_over C hC)), fun x hx => va_Nw.of rfl (hts _ (en_decl x hx)), va_Nw.of rfl (hts _ en_fln), hS, ?_, va_Zof (hts _ (List.mem_of_getElem? (i := 1013) (by decide +kernel))) (hws _ ww_1) etp hA, hTp, va_Zof (hts _ (List.mem_of_getElem? (i := 894) (by decide +kernel))) (hws _ ww_1) etw hA, hTw, va_Zof (hts _ (List.mem_of_getElem? (i := 654) (by decide +kernel))) (hws _ ww_16) (va_eqi (hfl _ en_c0)) hA, va_Zqof (hts _ (List.mem_of_getElem? (i := 670) (by decide +kernel))) (hws _ ww_18) (hfl _ en_s0) hA⟩, Nat.le_refl _⟩
  · intro k q hq
    match k, hq with
    | 0, hq => cases hq; exact k0
    | 1, hq => cases hq; exact k1
    | 2, hq => cases hq; exact k2
    | 3, hq => cases hq; exact k3
    | 4, hq => cases hq; exact k4
    | 5, hq => cases hq; exact k5
    | 6, hq => cases hq; exact k6
    | 7, hq => cases hq; exact k7
    | 8, hq => cases hq; exact k8
    | 9, hq => cases hq; exact k9
    | 10, hq => cases hq; exact k10
    | 11, hq => cases hq; exact k11
    | 12, hq => cases hq; exact k12
    | k + 13, hq => simp [classes] at hq
  · intro k q hq
    match k, hq with
    | 0, hq => cases hq; exact b0
    | 1, hq => cases hq; exact b1
    | 2, hq => cases hq; exact b2
    | 3, hq => cases hq; exact b3
    | 4, hq => cases hq; exact b4
    | 5, hq => cases hq; exact b5
    | 6, hq => cases hq; exact b6
    | k + 7, hq => simp [tys] at hq
  · intro k q hq
    have hk : k < 14 := (List.getElem?_eq_some_iff.mp hq).1
    refine vk_R.of (hts _ (en_sref k hk q hq)) ?_
    have h1 := hev k hk
    unfold tmS at h1
    rw [hq] at h1
    exact h1

