/-! ===== the joint step ===== -/
section
variable {D D' E E' H : Dm} {T : Tb} {acc AH : Int32} {ts ss : Tst} {b a Z : Nat}
def JNT (D E : Dm) (T : Tb) (acc : Int32) (ts : Tst) (b : Nat) (ss : Tst) (a Z : Nat) : Prop := PIv ts b ss Z ∧ CIv D T acc ts b ss a Z ∧ RIv E T acc ts b ss a Z ∧ ((D 43 17 = 0 ∧ E 281 33 = 0) ∨ ∃ H AH, DEC D T acc ts b ss a Z H AH ∧ (E 281 33 = 0 ∨ LAI E T acc ts b ss a Z H AH))
theorem dl_j (hJ : JNT D E T acc ts b ss a Z) : ∃ D1 E1 H AH, f_X3_decide D = some D1 ∧ f_X12_lays E = some E1 ∧ Fr SCS D D1 ∧ Fr SRS E E1 ∧ CIv D1 T acc ts b ss a Z ∧ RIv E1 T acc ts b ss a Z ∧ DEC D1 T acc ts b ss a Z H AH ∧ LAI E1 T acc ts b ss a Z H AH := by
  obtain ⟨hp, hC, hR, hc⟩ := hJ
  have main : ∀ D1 H AH, f_X3_decide D = some D1 → Fr SDD D D1 → CIv D1 T acc ts b ss a Z → DEC D1 T acc ts b ss a Z H AH → (E 281 33 = 0 ∨ LAI E T acc ts b ss a Z H AH) → ∃ D1 E1 H AH, f_X3_decide D = some D1 ∧ f_X12_lays E = some E1 ∧ Fr SCS D D1 ∧ Fr SRS E E1 ∧ CIv D1 T acc ts b ss a Z ∧ RIv E1 T acc ts b ss a Z ∧ DEC D1 T acc ts b ss a Z H AH ∧ LAI E1 T acc ts b ss a Z H AH := fun D1 H AH e F h1 hD hl => by
    obtain ⟨E1, e1, F1, R1, L1⟩ := lays2 hp hR hD.2.2.2.1.all hl
    exact ⟨D1, E1, H, AH, e, e1, F.mono (fun j k q => SDD_S q), F1, h1, R1, hD, L1⟩
  rcases hc with ⟨h17, h33⟩ | ⟨H, AH, hD, hl⟩
  · obtain ⟨D1, e, F, h1, hd⟩ := decide_ok (H := D) (AH := 0) hp hC hR.1.2.2.1 (Or.inl h17)
    rcases hd with ⟨-, H, AH, hd⟩ | hd
    · exact main D1 H AH e F h1 hd (Or.inl h33)
    · exact main D1 _ _ e F h1 hd (Or.inl h33)
  · obtain ⟨D1, e, F, h1, hd⟩ := decide_ok hp hC hR.1.2.2.1 (Or.inr hD)
    rcases hd with ⟨q, -⟩ | hd
    · rw [hD.1] at q; exact absurd q (by decide)
    · exact main D1 H AH e F h1 hd hl
/-- what one step of both leaves -/
def STP (D1 E1 : Dm) (T : Tb) (acc : Int32) (Z : Nat) (x : Option (Int32 × Dm)) (y : Option (Int32 × Dm)) : Prop := ∃ r D' E' ts' b' ss' a', x = some (r, D') ∧ y = some (r, E') ∧ Fr SCS D1 D' ∧ Fr SRS E1 E' ∧ JNT D' E' T acc ts' b' ss' a' Z ∧ (r = 0 ∨ r = -4 ∨ r = 1 ∨ r = 2 ∨ r = 3)
theorem PIv.s {w : List Lt} (h : PIv ts b ss Z) (ha : 1 ≤ a) : PIv ts b (addL ss a w) Z := by
  refine ⟨?_, h.2⟩
  rw [addL_lt (by omega)]; exact h.1
/-- a test is proposed -/
theorem stT (hp : PIv ts b ss Z) (hC : CIv D T acc ts b ss a Z) (hR : RIv E T acc ts b ss a Z) (hD : DEC D T acc ts b ss a Z H AH) (hL : LAI E T acc ts b ss a Z H AH) {k : Nat} (hk : k = 1 ∨ k = 3) (h13 : D 43 13 = nI k) (h55 : E 281 55 = nI k) {w : List Lt} (hw : PWd D w) {S : Nat → Nat → Prop} (hS : ∀ j q, S j q → (299 ≤ j ∧ j ≤ 305) ∨ (j = 281 ∧ (q = 3 ∨ q = 4 ∨ q = 5 ∨ (36 ≤ q ∧ q ≤ 51) ∨ q = 54))) {x : Option (Int32 × Dm)} (hx : Y x (shQ E ts b S w)) :
    STP D E T acc Z (f_X3_makeStep D) (bI x fun y16 D14 => if y16 = 0 then (f_X12_steps_58 D14) else (f_X12_steps_54 D14)) := by
  have hk2 : k ≠ 2 := by omega
  have h130 : D 43 13 ≠ 0 := by rw [h13]; rcases hk with rfl | rfl <;> decide
  have h132 : D 43 13 ≠ 2 := by rw [h13]; rcases hk with rfl | rfl <;> decide
  have h15 : D 43 15 = b01 (!okA ts b w) := by
    rcases hD.2.2.2.2 with ⟨q, -⟩ | ⟨k', w', k1, k4, q1, q2, q3⟩
    · exact absurd q h130
    · have : k' = k := nI_inj (by omega) (by omega) (by rw [← q1, h13])
      rw [this, q2.uniq hw, fitB_1 hk2] at q3
      exact q3
  obtain ⟨⟨r, E1⟩, ex, hr, hf, ht⟩ := hx
  rw [ex, bI_d]
  dsimp only at hr hf ht
  have he5 : ∀ {E1 : Dm}, (∀ j q, ¬ ((292 ≤ j ∧ j ≤ 294) ∨ (299 ≤ j ∧ j ≤ 305) ∨ (j = 281 ∧ (q = 3 ∨ q = 4 ∨ q = 5 ∨ q = 28 ∨ (36 ≤ q ∧ q ≤ 51) ∨ q = 54))) → E1 j q = E j q) → E1 281 55 = nI k := fun h => by
    rw [h _ _ (by omega)]; exact h55
  cases ok : okA ts b w with
  | false =>
    rw [ok] at hr h15
    have hF := hf ok
    rw [hr, if_pos (show b01 false = 0 from rfl), mkN h130 h15]
    have G : ∀ j q, ¬ ((299 ≤ j ∧ j ≤ 305) ∨ (j = 281 ∧ (q = 3 ∨ q = 4 ∨ q = 5 ∨ (36 ≤ q ∧ q ≤ 51) ∨ q = 54))) → E1 j q = E j q := fun j q h => hF j q (fun z => h (hS j q z))
    refine ⟨-4, D, E1, ts, b, ss, a, rfl, rfl, Fr.refl, fun j q h => G j q (by unfold SRS at h; omega), ⟨hp, hC, ⟨hR.1.fr (fun j k q => G j k (by omega)), by rw [G _ _ (by omega)]; exact hR.2⟩, Or.inr ⟨H, AH, hD, Or.inr ⟨by rw [G _ _ (by omega)]; exact hL.1, ?_⟩⟩⟩, Or.inr (Or.inl rfl)⟩
    have g6 : ∀ k, 55 ≤ k → k ≤ 65 → E1 281 k = E 281 k := fun k q1 q2 => G _ _ (by omega)
    rcases hL.2 with ⟨r1, u, y, i, e, r2, r3, r4, r5, r6, r7, r8⟩ | ⟨r1, r2, u, y, i, r3, r4, r5, r6, r7, r8⟩ | ⟨r1, r2⟩
    · exact Or.inl ⟨by rw [g6 _ (by omega) (by omega)]; exact r1, u, y, i, e, r2, r3, r4, by rw [g6 _ (by omega) (by omega)]; exact r5, by rw [g6 _ (by omega) (by omega)]; exact r6, by rw [g6 _ (by omega) (by omega)]; exact r7, by rw [g6 _ (by omega) (by omega)]; exact r8⟩
    · exact Or.inr (Or.inl ⟨by rw [g6 _ (by omega) (by omega)]; exact r1, r2, u, y, i, r3, r4, r5, by rw [g6 _ (by omega) (by omega)]; exact r6, by rw [g6 _ (by omega) (by omega)]; exact r7, by rw [g6 _ (by omega) (by omega)]; exact r8⟩)
    · refine Or.inr (Or.inr ⟨r1.fr (fun j q z => G j q (by omega)), ?_⟩)
      rcases r2 with ⟨q1, q2, q3, q4⟩ | ⟨q1, q2, ⟨q3, q4, q5⟩, s, q6, q7, q8⟩
      · exact Or.inl ⟨q1, by rw [g6 _ (by omega) (by omega)]; exact q2, by rw [g6 _ (by omega) (by omega)]; exact q3, by rw [g6 _ (by omega) (by omega)]; exact q4⟩
      · refine Or.inr ⟨q1, by rw [g6 _ (by omega) (by omega)]; exact q2, ⟨q3, by rw [g6 _ (by omega) (by omega)]; exact q4, fun p hp => ?_⟩, s, q6, q7, by rw [g6 _ (by omega) (by omega)]; exact q8⟩
        rw [G _ _ (by omega), G _ _ (by omega)]; exact q5 p hp
  | true =>
    rw [ok] at hr h15
    obtain ⟨hF, hT⟩ := ht ok
    have hok := ok
    unfold okA at hok
    rw [Bool.and_eq_true, Bool.and_eq_true, Bool.and_eq_true, decide_eq_true_eq, decide_eq_true_eq, decide_eq_true_eq] at hok
    obtain ⟨⟨⟨o1, o2⟩, o3⟩, o4⟩ := hok
    obtain ⟨⟨r', D'⟩, em, m1, m2, m3, m4, m5⟩ := mkT hC h132 h130 h15 hw (sy_k hC.1 hR.1.2.2.1 hp hD.2.2.2.1 hw h130) o1 o2 o3
    dsimp only at m1 m2 m3 m4 m5
    have G : ∀ j q, ¬ ((292 ≤ j ∧ j ≤ 294) ∨ (299 ≤ j ∧ j ≤ 305) ∨ (j = 281 ∧ (q = 3 ∨ q = 4 ∨ q = 5 ∨ q = 28 ∨ (36 ≤ q ∧ q ≤ 51) ∨ q = 54))) → E1 j q = E j q := fun j q h => hF j q (fun z => by
      rcases z with z | z
      · have := hS j q z; omega
      · unfold SAT at z; omega)
    have e55 : E1 281 55 = nI k := he5 G
    rw [em, hr, if_neg (by decide)]
    have es : f_X12_steps_54 E1 = some (nI k, ud E1 281 33 0) := by
      unfold f_X12_steps_54 f_X12_steps_59
      rw [if_neg (by decide), lt_d, e55, if_neg (by rcases hk with rfl | rfl <;> decide), lt_d]
    have G2 : ∀ j q, ¬ ((292 ≤ j ∧ j ≤ 294) ∨ (299 ≤ j ∧ j ≤ 305) ∨ (j = 281 ∧ (q = 3 ∨ q = 4 ∨ q = 5 ∨ q = 28 ∨ q = 33 ∨ (36 ≤ q ∧ q ≤ 51) ∨ q = 54))) → (ud E1 281 33 0) j q = E j q := fun j q h => by
      rw [ud_at, if_neg (by omega), G j q (by omega)]
    have hT2 : TR (ud E1 281 33 0) (addL ts b w) (b + 1) := hT.fr (by rw [ud_at, if_neg (by omega)]) (fun j k q1 q2 => by rw [ud_at, if_neg (by omega)])
    refine ⟨nI k, D', ud E1 281 33 0, addL ts b w, b + 1, ss, a, by rw [m1, h13], es, m2.mono (fun j k q => SMS_S q), fun j q h => G2 j q (by unfold SRS at h; omega), ⟨hp, m3, ⟨RS_t hR.1 hT2 (fun j k q => G2 j k (by omega)), by rw [G2 _ _ (by omega)]; exact hR.2⟩, Or.inl ⟨m4, by rw [ud_at, if_pos ⟨rfl, rfl⟩]⟩⟩, ?_⟩
    rcases hk with rfl | rfl
    · exact Or.inr (Or.inr (Or.inl rfl))
    · exact Or.inr (Or.inr (Or.inr (Or.inr rfl)))
end
