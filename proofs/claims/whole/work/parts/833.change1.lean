/-! ===== the calls that change a machine, the word, the tape ===== -/
section
variable {D D' X : Dm}
/-- what a new beginning of the learner leaves -/
def ANW (D : Dm) : Prop := D 43 4 = 1 ∧ D 76 2 = 1 ∧ D 43 16 = 0 ∧ D 43 17 = 0 ∧ D 281 27 = 1 ∧ D 281 28 = 1 ∧ D 289 0 = 0 ∧ D 292 0 = 0 ∧ D 281 33 = 0 ∧ (∀ k, k < 10 → D 295 k = 0 ∧ D 296 k = 0) ∧ ∀ k, k < 80 → D 297 k = 0 ∧ D 298 k = 0
theorem LRN.anew (h0 : RM D 0) (hE : EMP D) (h : ANW D) : LRN D := by
  obtain ⟨c1, c2, c3, c4, r1, r2, r3, r4, r5, r6, r7⟩ := h
  obtain ⟨y1, y2, y3⟩ := Yn_ok h0
  exact ⟨ts0, 1, ts0, 1, jnt_0 h0 y1 y2 y3 hE c1 c2 c3 c4 r1 r2 r3 r4 r5 r6 r7⟩
theorem rsD_anw : rsD D 281 27 = 1 ∧ rsD D 281 28 = 1 ∧ rsD D 289 0 = 0 ∧ rsD D 292 0 = 0 ∧ rsD D 281 33 = 0 ∧ (∀ k, k < 10 → rsD D 295 k = 0 ∧ rsD D 296 k = 0) ∧ ∀ k, k < 80 → rsD D 297 k = 0 ∧ rsD D 298 k = 0 := by
  unfold rsD zf
  refine ⟨?_, ?_, ?_, ?_, ?_, fun k hk => ⟨?_, ?_⟩, fun k hk => ⟨?_, ?_⟩⟩
  · rw [ud_at, if_neg (by omega), if_neg (by omega), if_neg (by omega), ud_at, if_neg (by omega), ud_at, if_neg (by omega), ud_at, if_neg (by omega), ud_at, if_pos ⟨rfl, rfl⟩]
  · rw [ud_at, if_neg (by omega), if_neg (by omega), if_neg (by omega), ud_at, if_neg (by omega), ud_at, if_neg (by omega), ud_at, if_pos ⟨rfl, rfl⟩]
  · rw [ud_at, if_neg (by omega), if_neg (by omega), if_neg (by omega), ud_at, if_neg (by omega), ud_at, if_pos ⟨rfl, rfl⟩]
  · rw [ud_at, if_neg (by omega), if_neg (by omega), if_neg (by omega), ud_at, if_pos ⟨rfl, rfl⟩]
  · rw [ud_at, if_pos ⟨rfl, rfl⟩]
  · rw [ud_at, if_neg (by omega), if_neg (by omega), if_pos ⟨by omega, hk⟩]
  · rw [ud_at, if_neg (by omega), if_neg (by omega), if_pos ⟨by omega, hk⟩]
  · rw [ud_at, if_neg (by omega), if_pos ⟨by omega, hk⟩]
  · rw [ud_at, if_neg (by omega), if_pos ⟨by omega, hk⟩]
theorem anD_at {j k : Nat} (h2 : ¬ (j = 43 ∧ (k = 4 ∨ k = 16 ∨ k = 17))) (h3 : ¬ (j = 76 ∧ k = 2)) : anD D j k = D j k := by
  unfold anD
  rw [ud_at, if_neg (by omega), ud_at, if_neg (by omega), ud_at, if_neg (by omega), ud_at, if_neg (by omega)]
theorem anD_anw : anD D 43 4 = 1 ∧ anD D 76 2 = 1 ∧ anD D 43 16 = 0 ∧ anD D 43 17 = 0 := by
  unfold anD
  refine ⟨?_, ?_, ?_, ?_⟩
  · rw [ud_at, if_neg (by omega), ud_at, if_neg (by omega), ud_at, if_neg (by omega), ud_at, if_pos ⟨rfl, rfl⟩]
  · rw [ud_at, if_neg (by omega), ud_at, if_neg (by omega), ud_at, if_pos ⟨rfl, rfl⟩]
  · rw [ud_at, if_neg (by omega), ud_at, if_pos ⟨rfl, rfl⟩]
  · rw [ud_at, if_pos ⟨rfl, rfl⟩]
theorem EMP.fr (h : EMP D) (hF : ∀ j k, ((82 ≤ j ∧ j ≤ 85) ∨ (122 ≤ j ∧ j ≤ 125)) → D' j k = D j k) : EMP D' :=
  ⟨isW_congr h.1 (hF _ _ (by omega)) (hF _ _ (by omega)) (fun k _ => hF _ _ (by omega)) (fun k _ => hF _ _ (by omega)), isW_congr h.2 (hF _ _ (by omega)) (hF _ _ (by omega)) (fun k _ => hF _ _ (by omega)) (fun k _ => hF _ _ (by omega))⟩
theorem Inv.emp (h : Inv D) : EMP D := by
  obtain ⟨ts, b, ss, a, hJ⟩ := h.2.2.2.2.2
  exact hJ.emp
abbrev SAN (j k : Nat) : Prop := (j = 43 ∧ (k = 4 ∨ k = 16 ∨ k = 17)) ∨ (j = 76 ∧ k = 2) ∨ (j = 281 ∧ (k = 27 ∨ k = 28 ∨ k = 33)) ∨ ((j = 289 ∨ j = 292) ∧ k = 0) ∨ (295 ≤ j ∧ j ≤ 298)
theorem s_begin : St_begin Inv := fun D h => by
  obtain ⟨ts, b, ss, a, hJ⟩ := h.2.2.2.2.2
  have hE := h.emp
  have er : D 43 4 + D 76 2 = anD D 281 27 + anD D 281 28 := by
    rw [anD_at (by omega) (by omega), anD_at (by omega) (by omega), hJ.2.1.1.2.2.2.1, hJ.2.1.1.2.1.2.1, hJ.2.2.1.1.2.2.1.2.1, hJ.2.2.1.1.2.1.2.1]
  refine ⟨D 43 4 + D 76 2, anD D, rsD (ud (anD D) 281 0 0), begin_c, ?_, ?_⟩
  · rw [begin_r, er]
  · have e : ∀ j k, ¬ SAN j k → ¬ (j = 281 ∧ k = 0) → rsD (ud (anD D) 281 0 0) j k = D j k := fun j k q1 q2 => by
      unfold SAN at q1
      rw [rsD_at (by omega) (by omega) (by omega), ud_at, if_neg q2, anD_at (by omega) (by omega)]
    have eK : ∀ j k, KN j k → rsD (ud (anD D) 281 0 0) j k = D j k := fun j k q => e j k (by unfold KN at q; unfold SAN; omega) (by unfold KN at q; omega)
    refine h.lrn eK (LRN.anew ?_ (hE.fr (fun j k q => e j k (by unfold SAN; omega) (by omega))) ?_)
    · exact h.1.1.fr (by omega) (fun j k q => eK j k (by unfold KN; omega))
    · obtain ⟨c1, c2, c3, c4⟩ := anD_anw (D := D)
      have u : ∀ j k, (j = 43 ∨ j = 76) → rsD (ud (anD D) 281 0 0) j k = anD D j k := fun j k q => by
        rw [rsD_at (by omega) (by omega) (by omega), ud_at, if_neg (by omega)]
      exact ⟨by rw [u _ _ (by omega)]; exact c1, by rw [u _ _ (by omega)]; exact c2, by rw [u _ _ (by omega)]; exact c3, by rw [u _ _ (by omega)]; exact c4, rsD_anw⟩
/-- a machine has changed: X is the memory before the caches were dropped -/
theorem inv_ch {D2 : Dm} {x1 : Int32} {m : Nat} (hm : isMc x1 m) (h0 : RM X 0) (h1 : RM X 1) (h2 : WRD X) (h3 : TPE X) (h4 : FLT X) (hE : EMP X) (hL : m = 1 → LRN X) (h10 : D2 0 10 = 0) (hF : ∀ j k, ¬ SAN j k → ¬ (j = 0 ∧ k = 10) → D2 j k = X j k) (hA : x1 = 0 → ANW D2) (hN : x1 ≠ 0 → ∀ j k, SAN j k → D2 j k = X j k) : Inv D2 := by
  have r0 : RM D2 0 := h0.fr (by omega) (fun j k q => hF j k (by unfold SAN; omega) (by omega))
  refine ⟨⟨r0, h1.fr (by omega) (fun j k q => hF j k (by unfold SAN; omega) (by omega))⟩, h2.fr (fun j k q => hF j k (by unfold SAN; omega) (by omega)), h3.fr (fun j k q => hF j k (by unfold SAN; omega) (by omega)), h4.fr (fun j k q => hF j k (by unfold SAN; omega) (by omega)), Or.inl h10, ?_⟩
  rcases hm with ⟨e, -⟩ | ⟨e, e1⟩
  · exact LRN.anew r0 (hE.fr (fun j k q => hF j k (by unfold SAN; omega) (by omega))) (hA e)
  · refine (hL e1).fr (fun j k q => ?_)
    by_cases c : SAN j k
    · exact hN (by rw [e]; decide) j k c
    · exact hF j k c (by unfold CRF at q; omega)
theorem chC_0 {x : Int32} : chC x D 0 10 = 0 := by
  unfold chC
  by_cases e : x = 0
  · rw [if_pos e, anD_at (by omega) (by omega), ud_at, if_pos ⟨rfl, rfl⟩]
  · rw [if_neg e, ud_at, if_pos ⟨rfl, rfl⟩]
theorem chC_ne {x : Int32} (hx : x ≠ 0) {j k : Nat} (h : ¬ (j = 0 ∧ k = 10)) : chC x D j k = D j k := by
  unfold chC
  rw [if_neg hx, ud_at, if_neg h]
/-- Y: the reference's memory before its caches were dropped, over the class's last one -/
theorem inv_ch2 {Dc Y : Dm} {x1 : Int32} {m : Nat} (hm : isMc x1 m) (hX : ∀ j k, X j k = if j ≤ 280 then Dc j k else Y j k) (hY : ∀ j k, j ≤ 280 → Y j k = chC x1 Dc j k) (h0 : RM X 0) (h1 : RM X 1) (h2 : WRD X) (h3 : TPE X) (h4 : FLT X) (hE : EMP X) (hL : m = 1 → LRN X) : Inv (chR x1 Y) := by
  refine inv_ch hm h0 h1 h2 h3 h4 hE hL ?_ (fun j k q1 q2 => ?_) (fun e => ?_) (fun e j k q => ?_)
  · rw [chR_at (by omega) (by omega) (by omega), hY _ _ (by omega), chC_0]
  · unfold SAN at q1
    rw [chR_at (by omega) (by omega) (by omega), hX]
    by_cases c : j ≤ 280
    · rw [if_pos c, hY j k c, chC_at q2 (by omega) (by omega)]
    · rw [if_neg c]
  · obtain ⟨c1, c2, c3, c4⟩ := anD_anw (D := ud Dc 0 10 0)
    have u : ∀ j k, (j = 43 ∨ j = 76) → chR x1 Y j k = anD (ud Dc 0 10 0) j k := fun j k q => by
      rw [chR_at (by omega) (by omega) (by omega), hY j k (by omega)]
      unfold chC
      rw [if_pos e]
    have v : chR x1 Y = rsD Y := by unfold chR; rw [if_pos e]
    refine ⟨by rw [u _ _ (by omega)]; exact c1, by rw [u _ _ (by omega)]; exact c2, by rw [u _ _ (by omega)]; exact c3, by rw [u _ _ (by omega)]; exact c4, ?_⟩
    rw [v]
    exact rsD_anw
  · unfold SAN at q
    have v : chR x1 Y = Y := by unfold chR; rw [if_neg e]
    rw [v, hX]
    by_cases c : j ≤ 280
    · rw [if_pos c, hY j k c, chC_ne e (by omega)]
    · rw [if_neg c]
end
