section
variable {G : Cf → Cf → Nat → Prop} {T : Tb} {acc : Int32} {sB : Cf → Lt → Cf} {tB : Cf → Bool} {Z : Nat} {D0 : Dm}
theorem find_h_ok (hM : MC D0 T acc) {w : Nat} (hw : 42 < w) (hadv : ∀ (D : Dm) (a b : Cf) (n : Nat) (y nm : Int32), Fr SG D0 D → G a b n → getGo D 38 = b → isSy y → f_X2_advance 38 y nm D = some (setGo D 38 (sB b (y, nm)))) (htak : ∀ D : Dm, Fr SG D0 D → f_X2_takes 38 D = some (b01 (tB (getGo D 38)), D))
    (hcl : clG G (step T) sB Z) (hZ : Z ≤ 2) (hGP : ∀ a b n, G a b n → n ≤ 20 → okP a b) (hGC : ∀ a b n, G a b n → okSt a.1 ∧ okC a n ∧ okC b n) (hroom : ∀ N, okN G N → N.length ≤ 1351) (hG0 : okN G [nd0]) {D : Dm} (hD0 : D0 = ud (ud D w 3 0) w 4 0) :
    Y (f_X8_find_h (nI Z) w D) (fun r => fnd D r.2 w (srch (step T) sB (tk acc) tB Z) r.1 ∧ okN G (srch (step T) sB (tk acc) tB Z).1) := by
  have hW0 : isW D0 w 0 := by rw [hD0]; exact clear_isW
  have hFD : Fr (fun j k => w ≤ j ∧ j ≤ w + 3) D D0 := by rw [hD0]; exact (Fr.refl.ud (by omega)).ud (by omega)
  have hok : ∀ R : List Nd × Bool, ∀ (D2 : Dm), R.2 = false → okN G R.1 → RC D2 R.1 → Fr SG D0 D2 → fnd D D2 w R 0 ∧ okN G R.1 := by
    intro R D2 h1 h2 h3 h4
    refine ⟨⟨by rw [h1]; rfl, h3.2.1, h3.1, h2.1, fun j k hj => ?_, (fun q => by rw [h1] at q; cases q), fun _ => ?_⟩, h2⟩
    · rw [h4 j k (by unfold SG; omega), hFD j k (by omega)]
    · exact isW_congr hW0 (h4 _ _ (by unfold SG; omega)) (h4 _ _ (by unfold SG; omega)) (fun k hk => absurd hk (Nat.not_lt_zero k)) (fun k hk => absurd hk (Nat.not_lt_zero k))
  have loop : ∀ (f k m : Nat) (D1 : Dm) (N : List Nd), f + k = 1352 → okN G N → RC D1 N → Fr SG D0 D1 → Y (f_X8_find_h_64 (f + 1 + m) (nI Z) w (nI k) D1) (fun r => fnd D r.2 w (bfs (step T) sB (tk acc) tB Z f k N) r.1 ∧ okN G (bfs (step T) sB (tk acc) tB Z f k N).1) := by
    intro f
    induction f with
    | zero =>
      intro k m D1 N hf hN hR hF
      rw [show 0 + 1 + m = m + 1 by omega]
      show Y (f_X8_find_h_64_b _ _ _ _ _) _
      unfold f_X8_find_h_64_b
      rw [hR.2.1]
      have := hR.1
      refine yPos (nI_le (by omega) (by omega)) (yRet (hok _ _ rfl hN hR hF))
    | succ f ih =>
      intro k m D1 N hf hN hR hF
      have hlen := hR.1
      rw [show f + 1 + 1 + m = (f + 1 + m) + 1 by omega]
      show Y (f_X8_find_h_64_b _ _ _ _ _) _
      unfold f_X8_find_h_64_b f_X8_find_h_119 bfs
      rw [hR.2.1]
      refine yIte (fun h => ?_) (fun h => ?_)
      · rw [nI_leI (by omega) (by omega)] at h
        rw [if_neg (by omega)]
        exact yRet (hok _ _ rfl hN hR hF)
      · rw [nI_leI (by omega) (by omega)] at h
        have hk : k < N.length := by omega
        rw [if_pos hk]
        obtain ⟨-, p31, -⟩ := hR.2.2.1 k hk
        have hn20 := (hN.2.2.2.1 k hk).2.2
        refine yNeg (show ¬ nI 1351 ≤ nI k from nI_nle2 (by omega) (by omega)) (yGd (inB_nI (by omega) (by omega)) ?_)
        rw [nI_clamp (by omega), p31]
        simp only [lt_d, nI_1]
        refine yIte (fun h2 => ?_) (fun h2 => ?_)
        · rw [show (20 : Int32) = nI 20 from rfl, nI_leI (by omega) (by omega)] at h2
          rw [if_neg (by omega)]
          exact ih (k + 1) m D1 N (by omega) hN hR hF
        · rw [show (20 : Int32) = nI 20 from rfl, nI_leI (by omega) (by omega)] at h2
          rw [if_pos (by omega)]
          refine yBI (goOn_h_ok hM hadv htak hcl hZ hGP hGC hroom hF hN hR hk (by omega)) (fun r D2 h3 => ?_)
          dsimp only at h3
          obtain ⟨er, o2, R2, F2⟩ := h3
          rw [er]
          cases hh : (goL (tryN (step T) sB (tk acc) tB k) N (allL (N.getD k nd0) Z)).2 with
          | false =>
            refine yPos rfl ?_
            rw [if_neg (show ¬ (false = true) by decide)]
            exact ih (k + 1) m D2 _ (by omega) o2 R2 F2
          | true =>
            refine yNeg (by decide) ?_
            rw [if_pos (rfl : true = true)]
            have l2 := R2.1
            have l0 := o2.1
            rw [R2.2.1, show nI (goL (tryN (step T) sB (tk acc) tB k) N (allL (N.getD k nd0) Z)).1.length - 1 = nI ((goL (tryN (step T) sB (tk acc) tB k) N (allL (N.getD k nd0) Z)).1.length - 1) from nI_sub (b := 1) (by omega)]
            have hW2 : isW D2 w 0 := isW_congr hW0 (F2 _ _ (by unfold SG; omega)) (F2 _ _ (by unfold SG; omega)) (fun k hk => absurd hk (Nat.not_lt_zero k)) (fun k hk => absurd hk (Nat.not_lt_zero k))
            refine yBV (spell_ok o2 R2 (last := (goL (tryN (step T) sB (tk acc) tB k) N (allL (N.getD k nd0) Z)).1.length - 1) (by omega) hw hW2) (fun D3 h3 => yRet ⟨⟨by rw [hh]; rfl, ?_, l2, l0, fun j q hj => ?_, fun _ => h3.2, (fun q => by rw [hh] at q; cases q)⟩, o2⟩)
            · show D3 25 14 = _
              rw [h3.1 _ _ (by omega)]; exact R2.2.1
            · show D3 j q = _
              rw [h3.1 j q (by omega), F2 j q (by unfold SG; omega), hFD j q (by omega)]
  unfold f_X8_find_h
  rw [clear_ok, bV_d, ← hD0]
  refine yBV (fill_ok (by omega)) (fun D1 h1 => yLt (fun D2 hD2 => ?_))
  rw [go_start, bV_d, go_start, bV_d]
  generalize hD3 : setGo (setGo D2 36 (0, -1, -1)) 38 (0, -1, -1) = D3
  have hF2 : Fr SG D0 D2 := by rw [hD2]; exact (h1.1.mono (fun j k q => by unfold SG; omega)).ud (by unfold SG; omega)
  have hF3 : Fr (fun j k => 36 ≤ j ∧ j ≤ 39) D2 D3 := by
    rw [← hD3]; exact (Fr.refl.go (by omega) (by omega) (by omega)).go (by omega) (by omega) (by omega)
  have a3 : getGo D3 36 = c0 := by
    rw [← hD3]
    show (setGo (setGo D2 36 (0, -1, -1)) 38 (0, -1, -1) 36 0, setGo (setGo D2 36 (0, -1, -1)) 38 (0, -1, -1) 37 0, setGo (setGo D2 36 (0, -1, -1)) 38 (0, -1, -1) 37 1) = c0
    rw [show setGo (setGo D2 36 (0, -1, -1)) 38 (0, -1, -1) 36 = setGo D2 36 (0, -1, -1) 36 from setGo_ne (by omega) (by omega), show setGo (setGo D2 36 (0, -1, -1)) 38 (0, -1, -1) 37 = setGo D2 36 (0, -1, -1) 37 from setGo_ne (by omega) (by omega)]
    exact getGo_set
  have b3 : getGo D3 38 = c0 := by rw [← hD3]; exact getGo_set
  have hF3' : Fr SG D0 D3 := hF2.tr (hF3.mono (fun j k q => by unfold SG; omega))
  have R3 : RC D3 [] := by
    refine ⟨by simp, ?_, fun i hi => absurd hi (Nat.not_lt_zero i), fun c hc => ?_⟩
    · rw [hF3 _ _ (by omega), hD2, ud_at, if_pos ⟨rfl, rfl⟩]; rfl
    · rw [hF3 _ _ (by omega), hD2, ud_at, if_neg (by omega), h1.2 (c / 32) (by omega)]
      show (0#32).getLsbD _ = _
      simp [cds]
  have P0 : okP c0 c0 := ⟨Or.inr ⟨0, by omega, rfl⟩, Or.inr ⟨0, by omega, rfl⟩, ⟨Or.inl rfl, Or.inl rfl⟩, ⟨Or.inl rfl, Or.inl rfl⟩⟩
  refine yBI (enter_ok (D := D3) (N := []) R3 (fm := none) (fun k q => by cases q) (fun _ => rfl) (y := 0) (nm := 0) (m := 0) rfl (by omega) a3 b3 P0 (fun _ => by simp)) (fun r D4 h4 => ?_)
  dsimp only at h4
  obtain ⟨hF4, h4⟩ := h4
  rcases h4 with ⟨hc, -⟩ | ⟨-, -, R4⟩
  · simp [cds] at hc
  · have R4 : RC D4 [nd0] := R4
    have hF4' : Fr SG D0 D4 := hF3'.tr (hF4.mono (fun j k q => by unfold SE at q; unfold SG; omega))
    have a4 : getGo D4 36 = c0 := by
      rw [← a3]; unfold getGo; rw [hF4 _ _ (by unfold SE; omega), hF4 _ _ (by unfold SE; omega), hF4 _ _ (by unfold SE; omega)]
    have b4 : getGo D4 38 = c0 := by
      rw [← b3]; unfold getGo; rw [hF4 _ _ (by unfold SE; omega), hF4 _ _ (by unfold SE; omega), hF4 _ _ (by unfold SE; omega)]
    rw [(hM.fr (fun j k h1 h2 => hF4' j k (by unfold SG; omega))).takes, bI_d, htak D4 hF4', bI_d, a4, b4]
    unfold srch
    have beq : (b01 (tk acc c0) = b01 (tB c0)) ↔ ¬ (tk acc c0 != tB c0) = true := by cases tk acc c0 <;> cases tB c0 <;> decide
    refine yIte (fun e => ?_) (fun e => ?_)
    · rw [if_neg (beq.mp e)]
      obtain ⟨q, hq⟩ := FUs 1352 (by omega)
      have := loop 1352 0 q D4 [nd0] (by omega) hG0 R4 hF4'
      rw [nI_0] at this
      rw [hq]
      exact this
    · have hb : (tk acc c0 != tB c0) = true := by
        cases hh : (tk acc c0 != tB c0) with
        | true => rfl
        | false => exact absurd (beq.mpr (by rw [hh]; decide)) e
      rw [if_pos hb]
      refine yRet ⟨⟨rfl, R4.2.1, R4.1, by simp, fun j k hj => ?_, fun _ => ⟨?_, fun p hp => absurd hp (Nat.not_lt_zero p)⟩, fun q => by cases q⟩, hG0⟩
      · show D4 j k = _
        rw [hF4' j k (by unfold SG; omega), hFD j k (by omega)]
      · exact isW_congr hW0 (hF4' _ _ (by unfold SG; omega)) (hF4' _ _ (by unfold SG; omega)) (fun k hk => absurd hk (Nat.not_lt_zero k)) (fun k hk => absurd hk (Nat.not_lt_zero k))
end
