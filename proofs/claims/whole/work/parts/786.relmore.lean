/-! ===== one more test or short word: the relation of the reference ===== -/
section
variable {D D' E E' H : Dm} {T : Tb} {acc AH : Int32} {ts ss : Tst} {b a Z : Nat}
theorem shE1_cg {ts' : Tst} {c : Cf} {f e : Nat} (h : ∀ t, t < f → ts' t = ts t) : shE1 T acc ts' c f e = shE1 T acc ts c f e := by
  unfold shE1
  apply shn_congr
  intro t ht
  have e1 : aG T acc ts' c 1000 (lnm (hsN c)) t = aG T acc ts c 1000 (lnm (hsN c)) t := by
    funext gs
    unfold aG
    rw [h t ht]
  rw [e1, h t ht]
theorem kpN_cg {ts' : Tst} {c : Cf} {f : Nat} (h : ∀ t, t < f → ts' t = ts t) : kpN T acc ts' f c = kpN T acc ts f c := by
  unfold kpN
  have : (fun e => (shE1 T acc ts' c f e).isSome) = (fun e => (shE1 T acc ts c f e).isSome) := by
    funext e
    rw [shE1_cg h]
  rw [this]
theorem kpN_0 {c : Cf} : kpN T acc ts 0 c = [] := by
  unfold kpN
  have : (fun e => (shE1 T acc ts c 0 e).isSome) = (fun _ => false) := by
    funext e
    rfl
  rw [this]
  simp
theorem RS_t {w : List Lt} (h : RS E T acc ts b ss a) (hT : TR E' (addL ts b w) (b + 1)) (hF : ∀ j k, (j = 282 ∨ (j = 281 ∧ k = 27) ∨ (289 ≤ j ∧ j ≤ 291) ∨ (295 ≤ j ∧ j ≤ 298)) → E' j k = E j k) : RS E' T acc (addL ts b w) (b + 1) ss a := by
  obtain ⟨h1, h2, h3, h4, h5⟩ := h
  have cg : ∀ f, f ≤ b → ∀ c, kpN T acc (addL ts b w) f c = kpN T acc ts f c := fun f hf c => kpN_cg (fun t ht => addL_lt (by omega))
  refine ⟨h1.fr (fun k => hF _ _ (by omega)), hT, h3.fr (hF _ _ (by omega)) (fun j k q1 q2 => hF _ _ (by omega)), ⟨fun u hu => ?_, fun u q1 q2 => ?_⟩, fun u hu y hy k hk => ?_⟩
  · rw [hF _ _ (by omega), hF _ _ (by omega)]
    obtain ⟨f, g1, g2, g3⟩ := h4.1 u hu
    exact ⟨f, by omega, g2, by rw [cg f g1]; exact g3⟩
  · obtain ⟨z1, z2, z3⟩ := h4.2 u q1 q2
    refine ⟨by rw [hF _ _ (by omega)]; exact z1, by rw [hF _ _ (by omega)]; exact z2, fun k hk => ?_⟩
    rw [hF _ _ (by omega), hF _ _ (by omega)]; exact z3 k hk
  · rw [hF _ _ (by omega), hF _ _ (by omega)]
    obtain ⟨f, g1, g2, g3⟩ := h5 u hu y hy k hk
    exact ⟨f, by omega, g2, by rw [cg f g1]; exact g3⟩
theorem RS_u {w : List Lt} (h : RS E T acc ts b ss a) (ha : a < 10) (hd : dsL w ≤ 3) (hS : SR E' (addL ss a w) (a + 1)) (hF : ∀ j k, (j = 282 ∨ (j = 281 ∧ k = 28) ∨ (292 ≤ j ∧ j ≤ 294) ∨ (295 ≤ j ∧ j ≤ 298)) → E' j k = E j k) : RS E' T acc ts b (addL ss a w) (a + 1) := by
  obtain ⟨h1, h2, h3, h4, h5⟩ := h
  have bt0 : nI (bts ([] : List Nat)) = 0 := rfl
  obtain ⟨z1, z2, z3⟩ := h4.2 a (Nat.le_refl _) ha
  refine ⟨h1.fr (fun k => hF _ _ (by omega)), h2.fr (hF _ _ (by omega)) (fun j k q1 q2 => hF _ _ (by omega)), hS, ⟨fun u hu => ?_, fun u q1 q2 => ?_⟩, fun u hu y hy k hk => ?_⟩
  · rw [hF _ _ (by omega), hF _ _ (by omega)]
    by_cases e : u = a
    · rw [e, z1, z2]
      exact ⟨0, Nat.zero_le _, nI_0.symm, by rw [kpN_0, bt0]⟩
    · have ec : cu T (addL ss a w) u = cu T ss u := by unfold cu; rw [addL_lt (by omega)]
      rw [ec]
      exact h4.1 u (by omega)
  · obtain ⟨z1, z2, z3⟩ := h4.2 u (by omega) q2
    refine ⟨by rw [hF _ _ (by omega)]; exact z1, by rw [hF _ _ (by omega)]; exact z2, fun k hk => ?_⟩
    rw [hF _ _ (by omega), hF _ _ (by omega)]; exact z3 k hk
  · rw [hF _ _ (by omega), hF _ _ (by omega)]
    by_cases e : u = a
    · rw [e, addL_at] at hk
      have hk : k ≤ dsL w := hk
      have := z3 (4 * y + k) (by omega)
      rw [e, show 8 * a + 4 * y + k = 8 * a + (4 * y + k) by omega, this.1, this.2]
      exact ⟨0, Nat.zero_le _, nI_0.symm, by rw [kpN_0, bt0]⟩
    · have ec : cl T (addL ss a w) u y k = cl T ss u y k := by unfold cl cu; rw [addL_lt (by omega)]
      rw [addL_lt (by omega)] at hk
      rw [ec]
      exact h5 u (by omega) y hy k hk
def RIv (E : Dm) (T : Tb) (acc : Int32) (ts : Tst) (b : Nat) (ss : Tst) (a Z : Nat) : Prop := RS E T acc ts b ss a ∧ E 282 2 = nI Z
def RKs (E : Dm) (T : Tb) (acc : Int32) (ts : Tst) (b : Nat) (ss : Tst) (a Z : Nat) (H : Dm) (AH : Int32) : Prop := RK1 E T acc ts b ss a Z ∨ RK2 E T acc ts b ss a Z ∨ RK3 E T acc ts b ss a Z H AH
def LAI (E : Dm) (T : Tb) (acc : Int32) (ts : Tst) (b : Nat) (ss : Tst) (a Z : Nat) (H : Dm) (AH : Int32) : Prop := E 281 33 = 1 ∧ RKs E T acc ts b ss a Z H AH
abbrev SRS (j k : Nat) : Prop := (289 ≤ j ∧ j ≤ 317) ∨ (j = 281 ∧ (k = 3 ∨ k = 4 ∨ k = 5 ∨ k = 27 ∨ k = 28 ∨ k = 33 ∨ (36 ≤ k ∧ k ≤ 51) ∨ (54 ≤ k ∧ k ≤ 59) ∨ (64 ≤ k ∧ k ≤ 68) ∨ (77 ≤ k ∧ k ≤ 80)))
abbrev SCS (j k : Nat) : Prop := (25 ≤ j ∧ j ≤ 42) ∨ (46 ≤ j ∧ j ≤ 75) ∨ (78 ≤ j ∧ j ≤ 261) ∨ (266 ≤ j ∧ j ≤ 267) ∨ (j = 43 ∧ (k = 4 ∨ (13 ≤ k ∧ k ≤ 17))) ∨ (j = 76 ∧ k = 2)
theorem SLA_S {j k : Nat} (h : SLA j k) : SRS j k := by
  unfold SLA SLY SXC SRE SFW SKR SSP SMG at h
  unfold SRS
  omega
theorem SDD_S {j k : Nat} (h : SDD j k) : SCS j k := by
  unfold SDD SDC SPf SLW SLk STH at h
  unfold SCS
  omega
theorem SMS_S {j k : Nat} (h : SMS j k) : SCS j k := by
  unfold SMS at h
  unfold SCS
  omega
theorem CKs.all (h : CKs D T acc ts b ss a Z H AH) : ALL T acc ts b ss a Z → TBL H T acc ts b ss a Z (fun _ _ _ => True) ∧ AHB AH T acc ss a := by
  intro hA
  rcases h with ⟨-, -, u, y, i, e, x, hv, q, -⟩ | ⟨-, -, -, u, y, i, hv, q, -⟩ | ⟨-, -, -, h4, h5, -⟩
  · have := (hA _ _ _ hv).1; rw [q] at this; cases this
  · exact absurd q (hA _ _ _ hv).2
  · exact ⟨h4, h5⟩
theorem lays2 (hp : PIv ts b ss Z) (h : RIv E T acc ts b ss a Z) (hB : ALL T acc ts b ss a Z → TBL H T acc ts b ss a Z (fun _ _ _ => True) ∧ AHB AH T acc ss a) (hc : E 281 33 = 0 ∨ LAI E T acc ts b ss a Z H AH) : Y (f_X12_lays E) (fun E' => Fr SRS E E' ∧ RIv E' T acc ts b ss a Z ∧ LAI E' T acc ts b ss a Z H AH) := by
  rcases hc with h33 | hl
  · refine yMono (lays_ok h.1 h.2 hp.2.2 hp.2.1 hp.1 h33 hB) (fun E1 h1 => ?_)
    obtain ⟨F, hR, e33, hK⟩ := h1
    exact ⟨F.mono (fun j k q => SLA_S q), ⟨hR, by rw [F _ _ (by unfold SLA SLY SXC SRE SFW SKR SSP SMG; omega)]; exact h.2⟩, e33, hK⟩
  · unfold f_X12_lays
    exact yNeg (by rw [hl.1]; decide) (yRet ⟨Fr.refl, h, hl⟩)
theorem mk0 (h : D 43 13 = 0) : f_X3_makeStep D = some (0, D) := by
  unfold f_X3_makeStep
  rw [if_pos h]
theorem mkN (h : D 43 13 ≠ 0) (h15 : D 43 15 = 1) : f_X3_makeStep D = some (-4, D) := by
  unfold f_X3_makeStep
  rw [if_neg h, if_neg (by rw [h15]; decide)]
end
