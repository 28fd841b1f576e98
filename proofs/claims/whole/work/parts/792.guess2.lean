/-! ===== guess, guessed, spare ===== -/
section
variable {D D' E E' H : Dm} {T : Tb} {acc AH : Int32} {ts ss : Tst} {b a Z : Nat}
theorem RW2.fr {n : Nat} (h : RW2 D E n) (hD : ∀ j k, 17 ≤ j → j ≤ 19 → D' j k = D j k) (hE : ∀ j k, (j = 285 ∨ j = 286 ∨ (j = 281 ∧ k = 18)) → E' j k = E j k) : RW2 D' E' n := by
  obtain ⟨h1, h2, h3, h4⟩ := h
  refine ⟨h1, by rw [hD _ _ (by omega) (by omega)]; exact h2, by rw [hE _ _ (by omega)]; exact h3, fun k hk => ?_⟩
  rw [hD 18 k (by omega) (by omega), hD 19 k (by omega) (by omega), hE 285 k (by omega), hE 286 k (by omega)]
  exact h4 k hk
theorem b01_ite {α : Type} {x : Bool} {p q : α} : (if b01 x = 0 then p else q) = if x = true then q else p := by
  cases x
  · rw [if_pos (show b01 false = 0 from rfl), if_neg (by decide)]
  · rw [if_neg (show ¬ b01 true = 0 by decide), if_pos rfl]
/-- the hypothesis goes along the word told, on both sides -/
theorem gs_j (hJ : JNT D E T acc ts b ss a Z) (h3 : CK3 D T acc ts b ss a Z H AH) (h4 : RK3 E T acc ts b ss a Z H AH) {n i : Nat} (hW : RW2 D E n) (hi : i ≤ n) : ∃ D2 E2, f_X9_walk_h 266 17 (nI i) D = some D2 ∧ f_X12_guessAlong (nI i) E = some E2 ∧ Fr (fun j k => j = 266 ∨ j = 267) D D2 ∧ Fr SGG E E2 ∧ getGo D2 266 = gGue E2 ∧ GC T acc ts b ss a (gGue E2) ∧ JNT D2 E2 T acc ts b ss a Z := by
  have hG := hcf_ok h4.1.1.2.2.1 h4.1.1.1.1 hJ.1 h4.1.2.2.1 h3.2.2.2.1 hW
  have ha := h4.1.1.2.2.1.1
  obtain ⟨D2, e1, F1, g1⟩ := wk_ok (i := i) h3.2.1 hW hi hG ha.2
  obtain ⟨E2, e2, F2, g2⟩ := ga_ok (i := i) h4.1 hJ.1 h3.2.2.2.1 hW hi
  refine ⟨D2, E2, e1, e2, F1, F2, by rw [g1, g2], by rw [g2]; exact hG i hi, ?_⟩
  exact (hJ.c (fun j k q => F1 j k (by omega))).r (fun j k q1 q2 => F2 j k (by unfold SXG at q2; unfold SGG; omega))
theorem guess_eq (hJ : JNT D D T acc ts b ss a Z) {n : Nat} (hW : RW D n) : LRQ D T acc Z f_X11_guess f_X12_guess := by
  obtain ⟨r, D1, D2, e1, e2, F⟩ := two (f := f_X11_guess) (g := fun E => bI (f_X12_isStanding E) fun y5 D3 => if y5 = 0 then (some ((-5), D3)) else (bV (f_X12_guessAlong (D3 281 18) D3) fun D7 => bI (f_X12_isGood (D7 281 66) D7) fun y11 D9 => if y11 = 0 then (some (0, D9)) else (some (1, D9)))) (Q := fun D E => RW2 D E n) (fun E hE hQ => by
    obtain ⟨D1, E1, v, e1, e2, e3, F1, F2, J, hv⟩ := st_j hE
    have hQ1 : RW2 D1 E1 n := hQ.fr (fun j k q1 q2 => F1 j k (by unfold SCS; omega)) (fun j k q => F2 j k (by unfold SRS; omega))
    unfold f_X11_guess
    try dsimp only
    rw [e1, bV_d, e2, bI_d, e3, bI_d]
    rcases hv with rfl | ⟨rfl, H, AH, h3, h4⟩
    · exact ⟨-5, D1, E1, ts, b, ss, a, by rw [if_pos rfl], by rw [if_pos rfl], F1, F2, J⟩
    · rw [if_neg i10, if_neg i10, hQ1.2.1, hQ1.2.2.1]
      obtain ⟨D2, E2, g1, g2, G1, G2, g3, g4, J2⟩ := gs_j J h3 h4 hQ1 (Nat.le_refl n)
      rw [g1, bV_d, g2, bV_d, tak_h, bI_d, b01_ite, G1 56 3 (by omega), h3.2.2.1]
      have FD : Fr SCS D D2 := F1.tr (G1.mono (fun j k q => by unfold SCS; omega))
      have FE : Fr SRS E E2 := F2.tr (G2.mono (fun j k q => by unfold SGG at q; unfold SRS; omega))
      rcases g4 with q | ⟨u, hu, q, -⟩
      · refine ⟨0, D2, E2, ts, b, ss, a, ?_, ?_, FD, FE, J2⟩
        · rw [if_neg]
          rw [g3, q]
          intro h
          unfold tk at h
          rw [Bool.and_eq_true] at h
          exact absurd h.1 (by decide)
        · have e66 : E2 281 66 = -1 := by
            have : E2 281 66 = (gGue E2).1 := rfl
            rw [this, q]
          unfold f_X12_isGood
          rw [e66, if_pos rfl, bI_d, if_pos rfl]
      · have e66 : E2 281 66 = nI u := q
        have hR2 := J2.2.2.1
        obtain ⟨⟨r, E3⟩, x1, x2, x3⟩ := isGood_ok hR2.1 hu
        dsimp only at x2 x3
        have etk : tk AH (getGo D2 266) = tk acc (cu T ss u) := by
          have : getGo D2 266 = (nI u, (gGue E2).2) := by rw [g3, ← q]
          rw [this]
          exact h3.2.2.2.2.1 u hu _
        rw [e66, x1, bI_d, x2, b01_ite, etk]
        have J3 : JNT D2 E3 T acc ts b ss a Z := J2.r (fun j k q1 q2 => x3 j k (by unfold SXG at q2; unfold SP2; omega))
        have FE3 : Fr SRS E E3 := FE.tr (x3.mono (fun j k q => by unfold SP2 at q; unfold SRS; omega))
        cases tk acc (cu T ss u)
        · exact ⟨0, D2, E3, ts, b, ss, a, by rw [if_neg (by decide)], by rw [if_neg (by decide)], FD, FE3, J3⟩
        · exact ⟨1, D2, E3, ts, b, ss, a, by rw [if_pos rfl], by rw [if_pos rfl], FD, FE3, J3⟩) hJ hW.two (fun E hE => hW.two.fr (fun _ _ _ _ => rfl) (fun j k q => hE j k (by omega) (by omega)))
  refine ⟨r, D1, D2, e1, ?_, F⟩
  unfold f_X12_guess
  rw [lt_d]
  exact e2
theorem guessed_eq (hJ : JNT D D T acc ts b ss a Z) {n : Nat} (hW : RW D n) (x1 x2 : Int32) : LRQ D T acc Z (f_X11_guessed x1 x2) (f_X12_guessed x1 x2) := by
  have hn := hW.1
  obtain ⟨r, D1, D2, e1, e2, F⟩ := two (f := f_X11_guessed x1 x2) (g := fun D1 => bI (f_X12_isIn (Int32.toInt64 x1) 0 (Int32.toInt64 (D1 281 18)) D1) fun y5 D3 => if y5 = 0 then (some ((-3), D3)) else (bI (f_X12_isIn (Int32.toInt64 x2) 0 2 D3) fun y9 D7 => if y9 = 0 then (some ((-2), D7)) else (bI (f_X12_isStanding D7) fun y13 D11 => if y13 = 0 then (some ((-5), D11)) else (bV (f_X12_guessAlong x1 D11) fun D15 => if x2 = 0 then (some ((D15 281 66), D15)) else (if x2 = 1 then (some ((D15 281 67), D15)) else (some ((D15 281 68), D15))))))) (Q := fun D E => RW2 D E n) (fun E hE hQ => by
    unfold f_X11_guessed
    try dsimp only
    rw [hQ.2.1, isInM hQ.2.2.1 (by omega), bI_d]
    by_cases c1 : 0 ≤ x1.toInt ∧ x1.toInt ≤ n
    · obtain ⟨i, hi, rfl⟩ : ∃ i, i ≤ n ∧ x1 = nI i := ⟨x1.toInt.toNat, by omega, nIt c1.1⟩
      rw [if_neg (nI_pos (by omega)), if_pos (nI_le hi (by omega)), if_pos c1, if_neg i10, isIn_i (l := 0) (h := 2) rfl rfl, bI_d]
      by_cases c2 : 0 ≤ x2.toInt ∧ x2.toInt ≤ 2
      · rw [if_neg (by rw [lt0]; omega), if_pos (by rw [Int32.le_iff_toInt_le]; exact c2.2), if_pos c2, if_neg i10]
        obtain ⟨D1, E1, v, e1, e2, e3, F1, F2, J, hv⟩ := st_j hE
        have hQ1 : RW2 D1 E1 n := hQ.fr (fun j k q1 q2 => F1 j k (by unfold SCS; omega)) (fun j k q => F2 j k (by unfold SRS; omega))
        rw [e1, bV_d, e2, bI_d, e3, bI_d]
        rcases hv with rfl | ⟨rfl, H, AH, h3, h4⟩
        · exact ⟨-5, D1, E1, ts, b, ss, a, by rw [if_pos rfl], by rw [if_pos rfl], F1, F2, J⟩
        · rw [if_neg i10, if_neg i10]
          obtain ⟨D2, E2, g1, g2, G1, G2, g3, g4, J2⟩ := gs_j J h3 h4 hQ1 hi
          rw [g1, bV_d, g2, bV_d]
          have FD : Fr SCS D D2 := F1.tr (G1.mono (fun j k q => by unfold SCS; omega))
          have FE : Fr SRS E E2 := F2.tr (G2.mono (fun j k q => by unfold SGG at q; unfold SRS; omega))
          have q1 : D2 266 0 = E2 281 66 := congrArg (fun z : Cf => z.1) g3
          have q2 : D2 (266 + 1) 0 = E2 281 67 := congrArg (fun z : Cf => z.2.1) g3
          have q3 : D2 (266 + 1) 1 = E2 281 68 := congrArg (fun z : Cf => z.2.2) g3
          unfold f_X1_told
          rw [q1, q2, q3]
          by_cases d0 : x2 = 0
          · exact ⟨E2 281 66, D2, E2, ts, b, ss, a, by rw [if_pos d0, bI_d], by rw [if_pos d0], FD, FE, J2⟩
          · by_cases d1 : x2 = 1
            · exact ⟨E2 281 67, D2, E2, ts, b, ss, a, by rw [if_neg d0, if_pos d1, bI_d], by rw [if_neg d0, if_pos d1], FD, FE, J2⟩
            · exact ⟨E2 281 68, D2, E2, ts, b, ss, a, by rw [if_neg d0, if_neg d1, bI_d], by rw [if_neg d0, if_neg d1], FD, FE, J2⟩
      · refine ⟨-2, D, E, ts, b, ss, a, ?_, by rw [if_neg c2, if_pos rfl], Fr.refl, Fr.refl, hE⟩
        by_cases c3 : x2 < 0
        · rw [if_pos c3]
        · rw [if_neg c3, if_neg]
          intro q
          rw [lt0] at c3
          rw [Int32.le_iff_toInt_le, show (2 : Int32).toInt = 2 from by decide] at q
          omega
    · refine ⟨-3, D, E, ts, b, ss, a, ?_, by rw [if_neg c1, if_pos rfl], Fr.refl, Fr.refl, hE⟩
      by_cases c3 : x1 < 0
      · rw [if_pos c3]
      · rw [if_neg c3, if_neg]
        intro q
        rw [lt0] at c3
        rw [Int32.le_iff_toInt_le, nI_toInt (by omega)] at q
        omega) hJ hW.two (fun E hE => hW.two.fr (fun _ _ _ _ => rfl) (fun j k q => hE j k (by omega) (by omega)))
  refine ⟨r, D1, D2, e1, ?_, F⟩
  unfold f_X12_guessed
  rw [lt_d]
  exact e2
end
