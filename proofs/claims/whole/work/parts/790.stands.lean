/-! ===== stands, splits, refutes ===== -/
section
variable {D D' E E' H : Dm} {T : Tb} {acc AH : Int32} {ts ss : Tst} {b a Z : Nat}
theorem st_j0 (hJ : JNT D E T acc ts b ss a Z) : ∃ D1 E1 v, f_X3_decide D = some D1 ∧ f_X3_isStanding D1 = some (v, D1) ∧ f_X12_isStanding E = some (v, E1) ∧ Fr SCS D D1 ∧ Fr SRS E E1 ∧ JNT D1 E1 T acc ts b ss a Z ∧ PS D1 T acc ts b ss a ∧ (v = 0 ∨ (v = 1 ∧ ∃ H AH, CK3 D1 T acc ts b ss a Z H AH ∧ RK3 E1 T acc ts b ss a Z H AH)) := by
  obtain ⟨D1, E1, H, AH, e1, e2, F1, F2, hC, hR, hD, hL⟩ := dl_j hJ
  have J1 : JNT D1 E1 T acc ts b ss a Z := ⟨hJ.1, hC, hR, Or.inr ⟨H, AH, hD, Or.inr hL⟩⟩
  have no : ∀ {k : Int32}, k ≠ 0 → k ≠ 3 → D1 43 13 = k → E1 281 55 = k → ∃ D1 E1 v, f_X3_decide D = some D1 ∧ f_X3_isStanding D1 = some (v, D1) ∧ f_X12_isStanding E = some (v, E1) ∧ Fr SCS D D1 ∧ Fr SRS E E1 ∧ JNT D1 E1 T acc ts b ss a Z ∧ PS D1 T acc ts b ss a ∧ (v = 0 ∨ (v = 1 ∧ ∃ H AH, CK3 D1 T acc ts b ss a Z H AH ∧ RK3 E1 T acc ts b ss a Z H AH)) := fun k0 k3 q1 q2 => by
    refine ⟨D1, E1, 0, e1, ?_, ?_, F1, F2, J1, hD.2.2.1, Or.inl rfl⟩
    · unfold f_X3_isStanding
      rw [q1, if_neg k0, if_neg k3]
    · unfold f_X12_isStanding
      rw [e2, bV_d, q2, if_neg k0, if_neg k3]
  rcases kinds hD.2.2.2.1 hL.2 with ⟨k1, -, k3, -⟩ | ⟨k1, -, k3, -⟩ | ⟨h3, h4⟩
  · exact no (by decide) (by decide) k1 k3
  · exact no (by decide) (by decide) k1 k3
  · refine ⟨D1, E1, 1, e1, ?_, ?_, F1, F2, J1, hD.2.2.1, Or.inr ⟨rfl, H, AH, h3, h4⟩⟩
    · unfold f_X3_isStanding f_X3_isStanding_15
      rcases h3.2.2.2.2.2 with ⟨-, q, -⟩ | ⟨-, q, -⟩
      · rw [q, if_pos rfl]
      · rw [q, if_neg (by decide), if_pos rfl]
    · unfold f_X12_isStanding f_X12_isStanding_19
      rw [e2, bV_d]
      rcases h4.2 with ⟨-, q, -⟩ | ⟨-, q, -⟩
      · rw [q, if_pos rfl]
      · rw [q, if_neg (by decide), if_pos rfl]
theorem st_j (hJ : JNT D E T acc ts b ss a Z) : ∃ D1 E1 v, f_X3_decide D = some D1 ∧ f_X3_isStanding D1 = some (v, D1) ∧ f_X12_isStanding E = some (v, E1) ∧ Fr SCS D D1 ∧ Fr SRS E E1 ∧ JNT D1 E1 T acc ts b ss a Z ∧ (v = 0 ∨ (v = 1 ∧ ∃ H AH, CK3 D1 T acc ts b ss a Z H AH ∧ RK3 E1 T acc ts b ss a Z H AH)) := by
  obtain ⟨D1, E1, v, e1, e2, e3, F1, F2, J, -, hv⟩ := st_j0 hJ
  exact ⟨D1, E1, v, e1, e2, e3, F1, F2, J, hv⟩
/-- the kinds of both when the hypothesis stands -/
theorem st_k (h3 : CK3 D T acc ts b ss a Z H AH) (h4 : RK3 E T acc ts b ss a Z H AH) : (D 43 13 = 0 ∧ E 281 55 = 0 ∧ D 43 14 = -1 ∧ E 281 65 = -1 ∧ E 281 64 = -1 ∧ isW D 60 0) ∨ (D 43 13 = 3 ∧ E 281 55 = 3 ∧ D 43 14 = E 281 65 ∧ ∃ w, WD D w ∧ WR E w) := by
  rcases h3.2.2.2.2.2 with ⟨f1, f2, f3, f4⟩ | ⟨f1, f2, f3, s, f4, f5, f6, f7⟩
  · rcases h4.2 with ⟨g1, g2, g3, g4⟩ | ⟨g1, -⟩
    · exact Or.inl ⟨f2, g2, f3, g4, g3, f4⟩
    · rw [f1] at g1; cases g1
  · rcases h4.2 with ⟨g1, -⟩ | ⟨g1, g2, g3, s', g4, g5, g6⟩
    · rw [f1] at g1; cases g1
    · rw [f4] at g4
      cases g4
      exact Or.inr ⟨f2, g2, by rw [f6, g6], _, f3, g3⟩
def LRQ (D : Dm) (T : Tb) (acc : Int32) (Z : Nat) (f g : Dm → Option (Int32 × Dm)) : Prop := ∃ r D1 D2, f D = some (r, D1) ∧ g D1 = some (r, D2) ∧ Fr SCS D D1 ∧ Fr SRS (ud D1 281 0 0) D2 ∧ ∃ ts' b' ss' a', JNT D2 D2 T acc ts' b' ss' a' Z
theorem stands_eq (hJ : JNT D D T acc ts b ss a Z) : LRQ D T acc Z f_X11_stands f_X12_stands := by
  obtain ⟨r, D1, D2, e1, e2, F⟩ := two (f := f_X11_stands) (g := fun E => bI (f_X12_isStanding E) fun y5 D3 => if y5 = 0 then (some (0, D3)) else (if (D3 281 55) = 3 then (some (1, D3)) else (some (2, D3)))) (Q := fun _ _ => True) (fun E hE _ => by
    obtain ⟨D1, E1, v, e1, e2, e3, F1, F2, J, hv⟩ := st_j hE
    unfold f_X11_stands
    try dsimp only
    rw [e1, bV_d, e2, bI_d, e3, bI_d]
    rcases hv with rfl | ⟨rfl, H, AH, h3, h4⟩
    · exact ⟨0, D1, E1, ts, b, ss, a, by rw [if_pos rfl], by rw [if_pos rfl], F1, F2, J⟩
    · rcases st_k h3 h4 with ⟨q1, q2, -⟩ | ⟨q1, q2, -⟩
      · exact ⟨2, D1, E1, ts, b, ss, a, by rw [if_neg (by decide), q1, if_neg (by decide)], by rw [if_neg (by decide), q2, if_neg (by decide)], F1, F2, J⟩
      · exact ⟨1, D1, E1, ts, b, ss, a, by rw [if_neg (by decide), q1, if_pos rfl], by rw [if_neg (by decide), q2, if_pos rfl], F1, F2, J⟩) hJ trivial (fun _ _ => trivial)
  refine ⟨r, D1, D2, e1, ?_, F⟩
  unfold f_X12_stands
  rw [lt_d]
  exact e2
theorem splits_eq (hJ : JNT D D T acc ts b ss a Z) : LRQ D T acc Z f_X11_splits f_X12_splits := by
  obtain ⟨r, D1, D2, e1, e2, F⟩ := two (f := f_X11_splits) (g := fun E => bI (f_X12_isStanding E) fun y5 D3 => if y5 = 0 then (some ((-5), D3)) else (some ((D3 281 65), D3))) (Q := fun _ _ => True) (fun E hE _ => by
    obtain ⟨D1, E1, v, e1, e2, e3, F1, F2, J, hv⟩ := st_j hE
    unfold f_X11_splits
    try dsimp only
    rw [e1, bV_d, e2, bI_d, e3, bI_d]
    rcases hv with rfl | ⟨rfl, H, AH, h3, h4⟩
    · exact ⟨-5, D1, E1, ts, b, ss, a, by rw [if_pos rfl], by rw [if_pos rfl], F1, F2, J⟩
    · refine ⟨D1 43 14, D1, E1, ts, b, ss, a, by rw [if_neg (by decide)], ?_, F1, F2, J⟩
      rw [if_neg (by decide)]
      rcases st_k h3 h4 with ⟨-, -, q1, q2, -⟩ | ⟨-, -, q, -⟩
      · rw [q1, q2]
      · rw [q]) hJ trivial (fun _ _ => trivial)
  refine ⟨r, D1, D2, e1, ?_, F⟩
  unfold f_X12_splits
  rw [lt_d]
  exact e2
/-- the letters of the wrong word, as the reference tells them -/
theorem i10 : ¬ (1 : Int32) = 0 := by decide
theorem i30 : ¬ (3 : Int32) = 0 := by decide
theorem rf29 {w : List Lt} {x1 x2 : Int32} (h : WR E w) (hx : x1 ≠ -1) : f_X12_refutes_29 x1 x2 E = some (lolv w.length (E 308) (E 309) x1 x2, E) := by
  obtain ⟨w20, h64, -⟩ := h
  unfold f_X12_refutes_29 lolv
  rw [isInN h64 (by omega), bI_d, if_neg hx]
  by_cases c : 0 ≤ x1.toInt ∧ x1.toInt < w.length
  · rw [if_pos c, if_neg i10, if_pos c, isIn01, bI_d]
    obtain ⟨k, hk, rfl⟩ := clt c (by omega)
    by_cases d : x2 = 0
    · rw [if_pos (Or.inl d), if_neg i10, if_pos d, if_pos d, gd_t (inB_nI (by omega) (by omega))]
    · by_cases d1 : x2 = 1
      · rw [if_pos (show x2 = 0 ∨ x2 = 1 from Or.inr d1), if_neg i10, if_neg d, if_neg d, if_pos d1, gd_t (inB_nI (by omega) (by omega))]
      · rw [if_neg (show ¬ (x2 = 0 ∨ x2 = 1) from fun q => q.elim d d1), if_pos rfl, if_neg d, if_neg d1]
  · rw [if_neg c, if_pos rfl, if_neg c]
theorem rf29n {x1 x2 : Int32} (h : E 281 64 = -1) : f_X12_refutes_29 x1 x2 E = some (-2, E) := by
  unfold f_X12_refutes_29
  rw [h, isIn_i (l := 0) (h := -2) rfl rfl, if_neg (fun q => by have := q.1; have := q.2; omega), bI_d, if_pos rfl]
theorem rf_e {x2 : Int32} {w : List Lt} (h : WR E w) (hx : x2 ≠ 0) : f_X12_refutes_29 (-1) x2 E = some (-2, E) := by
  unfold f_X12_refutes_29
  rw [isInN h.2.1 (by have := h.1; omega), bI_d, if_neg (show ¬ (0 ≤ (-1 : Int32).toInt ∧ (-1 : Int32).toInt < w.length) from fun q => absurd q.1 (by decide)), if_pos rfl]
theorem refutes_eq (hJ : JNT D D T acc ts b ss a Z) (x1 x2 : Int32) : LRQ D T acc Z (f_X11_refutes x1 x2) (f_X12_refutes x1 x2) := by
  obtain ⟨r, D1, D2, e1, e2, F⟩ := two (f := f_X11_refutes x1 x2) (g := fun E => bI (f_X12_isStanding E) fun y5 D3 => if y5 = 0 then (some ((-5), D3)) else (if x1 = (-1) then (if x2 = 0 then (some ((D3 281 64), D3)) else (f_X12_refutes_29 x1 x2 D3)) else (f_X12_refutes_29 x1 x2 D3))) (Q := fun _ _ => True) (fun E hE _ => by
    obtain ⟨D1, E1, v, e1, e2, e3, F1, F2, J, hv⟩ := st_j hE
    unfold f_X11_refutes f_X11_refutes_41
    try dsimp only
    rw [e1, bV_d, e2, bI_d, e3, bI_d]
    rcases hv with rfl | ⟨rfl, H, AH, h3, h4⟩
    · exact ⟨-5, D1, E1, ts, b, ss, a, by rw [if_pos rfl], by rw [if_pos rfl], F1, F2, J⟩
    · rw [if_neg i10, if_neg i10]
      rcases st_k h3 h4 with ⟨q1, q2, -, -, q5, q6⟩ | ⟨q1, q2, -, w, hw, hr⟩
      · rw [lol_ok q6.2.1 (by omega), bI_d, rf29n q5, q1, if_pos rfl]
        by_cases c1 : x1 = -1
        · rw [if_pos c1, if_pos c1]
          by_cases c2 : x2 = 0
          · exact ⟨-1, D1, E1, ts, b, ss, a, by rw [if_pos c2], by rw [if_pos c2, q5], F1, F2, J⟩
          · refine ⟨-2, D1, E1, ts, b, ss, a, ?_, by rw [if_neg c2], F1, F2, J⟩
            rw [if_neg c2]
            unfold lolv
            rw [if_pos c1, if_neg c2]
        · rw [if_neg c1, if_neg c1]
          refine ⟨-2, D1, E1, ts, b, ss, a, ?_, rfl, F1, F2, J⟩
          unfold lolv
          rw [if_neg c1, if_neg (by omega)]
      · obtain ⟨w20, w3, wl⟩ := id hw
        obtain ⟨-, r3, rl⟩ := id hr
        rw [lol_ok w3 w20, bI_d, q1, if_neg i30]
        have el : lolv w.length (D1 (60 + 1)) (D1 (60 + 2)) x1 x2 = lolv w.length (E1 308) (E1 309) x1 x2 := lolv_congr (fun k hk => by
          rw [(wl k hk).1, (wl k hk).2, (rl k hk).1, (rl k hk).2]; exact ⟨rfl, rfl⟩)
        rw [el]
        refine ⟨lolv w.length (E1 308) (E1 309) x1 x2, D1, E1, ts, b, ss, a, ?_, ?_, F1, F2, J⟩
        · by_cases c1 : x1 = -1
          · rw [if_pos c1]
            by_cases c2 : x2 = 0
            · rw [if_pos c2]
            · rw [if_neg c2]
          · rw [if_neg c1]
        · by_cases c1 : x1 = -1
          · rw [if_pos c1]
            by_cases c2 : x2 = 0
            · rw [if_pos c2, r3]
              unfold lolv
              rw [if_pos c1, if_pos c2]
            · rw [if_neg c2, c1, rf_e hr c2]
              unfold lolv
              rw [if_pos rfl, if_neg c2]
          · rw [if_neg c1, rf29 hr c1]) hJ trivial (fun _ _ => trivial)
  refine ⟨r, D1, D2, e1, ?_, F⟩
  unfold f_X12_refutes
  rw [lt_d]
  exact e2
end
