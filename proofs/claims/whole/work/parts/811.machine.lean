/-! ===== machine ===== -/
section
variable {D E : Dm} {c : Nat → Nat}
theorem MV_wf {S R Y A : Nat} {to ke dr : Nat → Int32} (hS : 1 ≤ S ∧ S ≤ 5) (hR : R ≤ 2) (hY : 1 ≤ Y ∧ Y ≤ 2) (hA : A < 32) (h : MV S R Y to ke dr) : wfM (nI S) (nI R) (nI Y) (nI A) to ke dr := by
  unfold wfM
  rw [nI_toInt (show S < 2 ^ 31 by omega), nI_toInt (show R < 2 ^ 31 by omega), nI_toInt (show Y < 2 ^ 31 by omega), nI_toInt (show A < 2 ^ 31 by omega)]
  refine ⟨by omega, by omega, by omega, by omega, fun k hk => ?_⟩
  rcases h k hk with ⟨q1, q2, q3⟩ | ⟨t, ht, q1, q2, q3, q4, q5, q6⟩
  · exact ⟨Or.inl q1, Or.inl q2, Or.inl q3, fun _ => ⟨q2, q3⟩, fun _ _ => q1, fun _ => q1, fun _ => q1⟩
  · have e1 : (to k).toInt = t := by rw [q1, nI_toInt (by omega)]
    have n1 : to k ≠ -1 := by rw [q1]; exact nI_n1 (by omega)
    refine ⟨Or.inr (by omega), ?_, ?_, fun q => absurd q n1, fun z1 z2 => ?_, fun z => ?_, fun z => ?_⟩
    · rcases q2 with q | ⟨r, hr, q⟩
      · exact Or.inl q
      · right; rw [q, nI_toInt (by omega)]; omega
    · rcases q3 with q | ⟨r, hr, q⟩
      · exact Or.inl q
      · right; rw [q, nI_toInt (by omega)]; omega
    · omega
    · omega
    · omega
theorem m85 {x1 : Int32} {m : Nat} (hm : isMc x1 m) : Y (f_X12_machine_85 FU x1 0 E) (fun r => ∃ Ec : Dm, r.2 = chR x1 Ec ∧ Fr (fun j k => j = 282 ∧ (94 * m ≤ k ∧ k < 94 * m + 94)) E Ec ∧ (∀ k, k < 94 → Ec 282 (94 * m + k) = E 283 k) ∧ r.1 = nI (cnt (rTo (chR x1 Ec) m) 30)) := by
  have hm2 : m < 2 := by rcases hm with ⟨-, rfl⟩ | ⟨-, rfl⟩ <;> omega
  have ex : 94 * x1 = nI (94 * m) := by rcases hm with ⟨rfl, rfl⟩ | ⟨rfl, rfl⟩ <;> rfl
  have loop : ∀ (j i z : Nat) (E1 : Dm), i + j = 94 → Fr (fun j k => j = 282 ∧ (94 * m ≤ k ∧ k < 94 * m + 94)) E E1 → (∀ k, k < i → E1 282 (94 * m + k) = E 283 k) → Y (f_X12_machine_85 (j + 1 + z) x1 (nI i) E1) (fun r => ∃ Ec : Dm, r.2 = chR x1 Ec ∧ Fr (fun j k => j = 282 ∧ (94 * m ≤ k ∧ k < 94 * m + 94)) E Ec ∧ (∀ k, k < 94 → Ec 282 (94 * m + k) = E 283 k) ∧ r.1 = nI (cnt (rTo (chR x1 Ec) m) 30)) := by
    intro j
    induction j with
    | zero =>
      intro i z E1 hi hF hv
      have hi : i = 94 := by omega
      subst hi
      rw [show 0 + 1 + z = z + 1 by omega]
      show Y (f_X12_machine_85_b _ _ _ _) _
      unfold f_X12_machine_85_b f_X12_machine_122
      refine yPos (by decide) ?_
      by_cases e : x1 = 0
      · refine yPos e ?_
        rw [resets_ok, bV_d, mvo_ok hm, bI_d]
        exact yRet ⟨E1, by unfold chR; rw [if_pos e], hF, hv, by unfold chR; rw [if_pos e]⟩
      · refine yNeg e ?_
        rw [mvo_ok hm, bI_d]
        exact yRet ⟨E1, by unfold chR; rw [if_neg e], hF, hv, by unfold chR; rw [if_neg e]⟩
    | succ j ih =>
      intro i z E1 hi hF hv
      rw [show j + 1 + 1 + z = (j + 1 + z) + 1 by omega]
      show Y (f_X12_machine_85_b _ _ _ _) _
      unfold f_X12_machine_85_b
      rw [ex, nI_add]
      refine yNeg (nI_nle2 (a := i) (b := 94) (by omega) (by omega)) (yGd (inB_nI (by omega) (by omega)) (yGd (inB_nI (by omega) (by omega)) (yLt0 (yLt0 ?_))))
      rw [nI_1, nI_clamp (by omega), nI_clamp (by omega)]
      refine ih (i + 1) z _ (by omega) (hF.ud ⟨rfl, by omega, by omega⟩) (fun k hk => ?_)
      rw [ud_at]
      by_cases e : k = i
      · rw [if_pos ⟨rfl, by omega⟩, hF 283 i (by omega), e]
      · rw [if_neg (by omega)]; exact hv k (by omega)
  obtain ⟨z, hz⟩ := FUs 94 (by omega)
  have := loop 94 0 z E (by omega) Fr.refl (fun k hk => absurd hk (Nat.not_lt_zero k))
  rw [nI_0] at this
  rw [hz]
  exact this
theorem cpD_at {D : Dm} {i j n : Nat} {q k : Nat} : cpD D i j n q k = if q = j ∧ k < n then D i k else D q k := by
  unfold cpD va_cpy
  by_cases e : q = j
  · rw [if_pos e]
    by_cases e2 : k < n
    · rw [if_pos ⟨Nat.zero_le _, by omega⟩, if_pos ⟨e, e2⟩, Nat.zero_add, Nat.sub_zero]
    · rw [if_neg (by omega), if_neg (fun z => e2 z.2), e]
  · rw [if_neg e, if_neg (fun z => e z.1)]
theorem copyM_ok {m : Nat} (hm : m < 2) : Y (f_X4_copy (9 + 4 * m) 4 D) (fun D' => Fr (fun j k => 9 + 4 * m ≤ j ∧ j ≤ 9 + 4 * m + 3) D D' ∧ (∀ k, k < 4 → D' (9 + 4 * m) k = D 4 k) ∧ ∀ k, k < 30 → D' (9 + 4 * m + 1) k = D 5 k ∧ D' (9 + 4 * m + 2) k = D 6 k ∧ D' (9 + 4 * m + 3) k = D 7 k) := by
  unfold f_X4_copy
  simp only [lt_d]
  refine yRet ⟨fun j k q => ?_, fun k hk => ?_, fun k hk => ?_⟩
  · rw [cpD_at, if_neg (by omega), cpD_at, if_neg (by omega), cpD_at, if_neg (by omega), ud_at, if_neg (by omega), ud_at, if_neg (by omega), ud_at, if_neg (by omega), ud_at, if_neg (by omega)]
  · have : k = 0 ∨ k = 1 ∨ k = 2 ∨ k = 3 := by omega
    rw [cpD_at, if_neg (by omega), cpD_at, if_neg (by omega), cpD_at, if_neg (by omega)]
    rcases this with rfl | rfl | rfl | rfl
    · rw [ud_at, if_neg (by omega), ud_at, if_neg (by omega), ud_at, if_neg (by omega), ud_at, if_pos ⟨rfl, rfl⟩]
    · rw [ud_at, if_neg (by omega), ud_at, if_neg (by omega), ud_at, if_pos ⟨rfl, rfl⟩, ud_at, if_neg (by omega)]
    · rw [ud_at, if_neg (by omega), ud_at, if_pos ⟨rfl, rfl⟩, ud_at, if_neg (by omega), ud_at, if_neg (by omega)]
    · rw [ud_at, if_pos ⟨rfl, rfl⟩, ud_at, if_neg (by omega), ud_at, if_neg (by omega), ud_at, if_neg (by omega)]
  · refine ⟨?_, ?_, ?_⟩
    · rw [cpD_at, if_neg (by omega), cpD_at, if_neg (by omega), cpD_at, if_pos ⟨rfl, hk⟩, ud_at, if_neg (by omega), ud_at, if_neg (by omega), ud_at, if_neg (by omega), ud_at, if_neg (by omega)]
    · rw [cpD_at, if_neg (by omega), cpD_at, if_pos ⟨rfl, hk⟩, cpD_at, if_neg (by omega), ud_at, if_neg (by omega), ud_at, if_neg (by omega), ud_at, if_neg (by omega), ud_at, if_neg (by omega)]
    · rw [cpD_at, if_pos ⟨rfl, hk⟩, cpD_at, if_neg (by omega), cpD_at, if_neg (by omega), ud_at, if_neg (by omega), ud_at, if_neg (by omega), ud_at, if_neg (by omega), ud_at, if_neg (by omega)]
theorem cnt_cg {f g : Nat → Int32} : ∀ {n : Nat}, (∀ k, k < n → f k = g k) → cnt f n = cnt g n
  | 0, _ => rfl
  | n + 1, h => by
    unfold cnt
    rw [cnt_cg (fun k hk => h k (by omega)), h n (by omega)]
abbrev SCA (j k : Nat) : Prop := (j = 1 ∧ (1 ≤ k ∧ k ≤ 7)) ∨ (3 ≤ j ∧ j ≤ 7)
abbrev SRA (j k : Nat) : Prop := (j = 281 ∧ (k = 0 ∨ (7 ≤ k ∧ k ≤ 13))) ∨ j = 283
def TFL (D E : Dm) : Prop := D 1 1 = 0 ∧ E 281 7 = 0 ∧ D 1 6 = E 281 10 ∧ D 1 7 = E 281 11
def RM2 (D E : Dm) (m : Nat) : Prop :=
  wfM (D (9 + 4 * m) 0) (D (9 + 4 * m) 1) (D (9 + 4 * m) 2) (D (9 + 4 * m) 3) (D (9 + 4 * m + 1)) (D (9 + 4 * m + 2)) (D (9 + 4 * m + 3)) ∧
  E 282 (94 * m + 0) = D (9 + 4 * m) 0 ∧ E 282 (94 * m + 1) = D (9 + 4 * m) 1 ∧ E 282 (94 * m + 2) = D (9 + 4 * m) 2 ∧ E 282 (94 * m + 3) = D (9 + 4 * m) 3 ∧
  ∀ k, k < 30 → rTo E m k = D (9 + 4 * m + 1) k ∧ rKe E m k = D (9 + 4 * m + 2) k ∧ rDr E m k = D (9 + 4 * m + 3) k
def MCQ (x1 : Int32) (D E D' E' : Dm) : Prop := (D' = D ∧ E' = ud E 281 0 0) ∨ (Fr SCA D D' ∧ Fr SRA E E' ∧ TFL D' E') ∨
  ∃ m Dc Ec, isMc x1 m ∧ D' = chC x1 Dc ∧ E' = chR x1 Ec ∧ Fr (fun j k => SCA j k ∨ (9 + 4 * m ≤ j ∧ j ≤ 9 + 4 * m + 3)) D Dc ∧ Fr (fun j k => SRA j k ∨ (j = 282 ∧ (94 * m ≤ k ∧ k < 94 * m + 94))) E Ec ∧ TFL Dc Ec ∧ RM2 Dc Ec m
theorem chC_at {x : Int32} {D : Dm} {j k : Nat} (h : ¬ (j = 0 ∧ k = 10)) (h2 : ¬ (j = 43 ∧ (k = 4 ∨ k = 16 ∨ k = 17))) (h3 : ¬ (j = 76 ∧ k = 2)) : chC x D j k = D j k := by
  unfold chC anD
  by_cases e : x = 0
  · rw [if_pos e, ud_at, if_neg (by omega), ud_at, if_neg (by omega), ud_at, if_neg (by omega), ud_at, if_neg (by omega), ud_at, if_neg h]
  · rw [if_neg e, ud_at, if_neg h]
theorem rsD_at {D : Dm} {j k : Nat} (h : ¬ (j = 281 ∧ (k = 27 ∨ k = 28 ∨ k = 33))) (h2 : ¬ ((j = 289 ∨ j = 292) ∧ k = 0)) (h3 : ¬ (295 ≤ j ∧ j ≤ 298)) : rsD D j k = D j k := by
  unfold rsD zf
  rw [ud_at, if_neg (by omega), if_neg (by omega), if_neg (by omega), ud_at, if_neg (by omega), ud_at, if_neg (by omega), ud_at, if_neg (by omega), ud_at, if_neg (by omega)]
theorem chR_at {x : Int32} {D : Dm} {j k : Nat} (h : ¬ (j = 281 ∧ (k = 27 ∨ k = 28 ∨ k = 33))) (h2 : ¬ ((j = 289 ∨ j = 292) ∧ k = 0)) (h3 : ¬ (295 ≤ j ∧ j ≤ 298)) : chR x D j k = D j k := by
  unfold chR
  by_cases e : x = 0
  · rw [if_pos e, rsD_at h h2 h3]
  · rw [if_neg e]
theorem machine_j {h : Nat} (hT : TPR D E c h) (x1 x2 : Int32) : ∃ r D' E', f_X11_machine x1 x2 D = some (r, D') ∧ f_X12_machine x1 x2 E = some (r, E') ∧ MCQ x1 D E D' E' := by
  have hT' : TPR D (ud E 281 0 0) c h := ⟨hT.1, hT.2.1, by rw [ud_at, if_neg (by omega)]; exact hT.2.2.1, fun k hk => by rw [ud_at, if_neg (by omega)]; exact hT.2.2.2 k hk⟩
  have h5 := hT.1
  unfold f_X11_machine f_X12_machine
  rw [lt_d]
  rcases mc_cases x1 with ⟨m, hm⟩ | hm
  · rw [mc_c hm, bI_d, if_neg i10, mc_r hm, bI_d, if_neg i10, isInM hT'.2.2.1 (by omega), bI_d]
    by_cases c2 : 0 ≤ x2.toInt ∧ x2.toInt ≤ h
    · obtain ⟨n, hn, rfl⟩ : ∃ n, n ≤ h ∧ x2 = nI n := ⟨x2.toInt.toNat, by omega, nIt c2.1⟩
      rw [if_pos c2, if_neg i10, if_neg (nI_pos (by omega)), hT.2.1, if_pos (nI_le hn (by omega))]
      obtain ⟨D1, E1, a1, a2, a3, a4, J1, a5, a6⟩ := open_j hT' hn
      rw [a1, bV_d, a2, bV_d]
      obtain ⟨D2, E2, b1, b2, b3, b4⟩ := empty_j (x1 := x1) J1
      have FD : Fr SCA D D2 := Fr.tr (a3.mono (fun j k q => by unfold SC1 at q; unfold SCA; omega)) (b2.mono (fun j k q => by unfold SCM at q; unfold SCA; omega))
      have FE : Fr SRA E E2 := fun j k q => by
        rw [b3 j k (by unfold SRA at q; unfold SRX; omega), a4 j k (by unfold SRA at q; unfold SR1; omega), ud_at, if_neg (by unfold SRA at q; omega)]
      have t1 : D2 1 1 = 0 := by rw [b2 _ _ (by unfold SCM; omega)]; exact a5
      have t7 : E2 281 7 = 0 := by rw [b3 _ _ (by unfold SRX; omega)]; exact a6
      rw [b1, bV_d]
      rcases b4 with ⟨d6, d7, e10, e11, hR, ey⟩ | ⟨w, q, hC, e10, e11, ey⟩
      · rw [ey, if_pos d6, gd_t (mc_in hm), mc_ar hm]
        have hm2 : m < 2 := by rcases hm with ⟨-, rfl⟩ | ⟨-, rfl⟩ <;> omega
        obtain ⟨Dc, k1, k2, k3, k4⟩ := copyM_ok (D := D2) hm2
        obtain ⟨⟨v, E'⟩, l1, Ec, l2, l3, l4, l5⟩ := m85 (E := E2) hm
        dsimp only at l2 l5
        rw [k1, bV_d, note_ok, bV_d, gd_t (mc_in hm), cmv_ok, bI_d, l1, l2, l5]
        obtain ⟨V, A, f, fb, h1, h2, h3, h4, h6, h7, h8, h9, h10⟩ := hR
        have en : ∀ k, k < 30 → chR x1 Ec 282 (94 * m + (4 + 3 * k)) = D2 5 k := fun k hk => by
          rw [chR_at (by omega) (by omega) (by omega), l4 _ (by omega)]; exact (h4 k hk).1
        have ecn : cnt ((if x1 = 0 then anD (ud Dc 0 10 0) else ud Dc 0 10 0) (9 + 4 * m + 1)) 30 = cnt (rTo (chR x1 Ec) m) 30 := cnt_cg (fun k hk => by
          show chC x1 Dc (9 + 4 * m + 1) k = rTo (chR x1 Ec) m k
          rw [chC_at (by omega) (by omega) (by omega), (k4 k hk).1]
          exact (en k hk).symm)
        rw [ecn]
        have t2 : TFL Dc Ec := ⟨by rw [k2 _ _ (by omega)]; exact t1, by rw [l3 _ _ (by omega)]; exact t7, by rw [k2 _ _ (by omega), d6, l3 _ _ (by omega), e10], by rw [k2 _ _ (by omega), d7, l3 _ _ (by omega), e11]⟩
        have eV : ∀ x, x < 3 → Dc (9 + 4 * m) x = nI (V x) ∧ Ec 282 (94 * m + x) = nI (V x) := fun x hx => by
          rw [k3 x (by omega), l4 x (by omega)]; exact ⟨(h2 x hx).1, (h2 x hx).2.1⟩
        have eA : Dc (9 + 4 * m) 3 = nI A ∧ Ec 282 (94 * m + 3) = nI A := by rw [k3 3 (by omega), l4 3 (by omega)]; exact h3
        refine ⟨_, _, _, rfl, rfl, Or.inr (Or.inr ⟨m, Dc, Ec, hm, rfl, rfl, fun j k q => ?_, fun j k q => ?_, t2, ?_, ?_, ?_, ?_, ?_, fun k hk => ?_⟩)⟩
        · rw [k2 j k (fun z => q (Or.inr z)), FD j k (fun z => q (Or.inl z))]
        · rw [l3 j k (fun z => q (Or.inr z)), FE j k (fun z => q (Or.inl z))]
        · rw [(eV 0 (by omega)).1, (eV 1 (by omega)).1, (eV 2 (by omega)).1, eA.1]
          refine MV_wf h1.1 h1.2.1 h1.2.2.1 h1.2.2.2 (fun k hk => ?_)
          rw [(k4 k hk).1, (k4 k hk).2.1, (k4 k hk).2.2]
          exact h6 k hk
        · rw [(eV 0 (by omega)).1, (eV 0 (by omega)).2]
        · rw [(eV 1 (by omega)).1, (eV 1 (by omega)).2]
        · rw [(eV 2 (by omega)).1, (eV 2 (by omega)).2]
        · rw [eA.1, eA.2]
        · rw [(k4 k hk).1, (k4 k hk).2.1, (k4 k hk).2.2]
          unfold rTo rKe rDr
          rw [l4 _ (by omega), show 94 * m + (4 + 3 * k) + 1 = 94 * m + (4 + 3 * k + 1) by omega, l4 _ (by omega), show 94 * m + (4 + 3 * k) + 2 = 94 * m + (4 + 3 * k + 2) by omega, l4 _ (by omega)]
          exact h4 k hk
      · rw [ey, if_neg hC.ne, hC.1]
        exact ⟨_, D2, E2, rfl, rfl, Or.inr (Or.inl ⟨FD, FE, t1, t7, by rw [hC.1, e10], by rw [hC.2.1, e11]⟩)⟩
    · refine ⟨-3, D, ud E 281 0 0, ?_, by rw [if_neg c2, if_pos rfl], Or.inl ⟨rfl, rfl⟩⟩
      by_cases c3 : x2 < 0
      · rw [if_pos c3]
      · rw [if_neg c3, hT.2.1, if_neg]
        intro q
        rw [lt0] at c3
        rw [Int32.le_iff_toInt_le, nI_toInt (by omega)] at q
        omega
  · rw [mc_cn hm, bI_d, if_pos rfl, mc_rn hm, bI_d, if_pos rfl]
    exact ⟨-2, D, _, rfl, rfl, Or.inl ⟨rfl, rfl⟩⟩
end
