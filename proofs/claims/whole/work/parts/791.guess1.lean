/-! ===== guess and guessed ===== -/
section
variable {D D' D0 E E' H : Dm} {T : Tb} {acc AH : Int32} {ts ss : Tst} {b a Z : Nat}
def GC (T : Tb) (acc : Int32) (ts : Tst) (b : Nat) (ss : Tst) (a : Nat) (c : Cf) : Prop := c = (-1, -1, -1) ∨ ∃ u, u < a ∧ c.1 = nI u ∧ hreg (kaN T acc ts b ss u) c ∧ okC c 100
theorem hsl_n {u : Nat} {c : Cf} {nm : Int32} (hu : u < 10) (hc : c.1 = nI u) : ∃ g, g ≤ 2 ∧ hsl c (nI 1, nm) = (u * 2 + 1) * 3 + g := by
  have key : ∀ g, g ≤ 2 → hgd c nm = nI g → ∃ g, g ≤ 2 ∧ hsl c (nI 1, nm) = (u * 2 + 1) * 3 + g := fun g hg e => by
    refine ⟨g, hg, ?_⟩
    unfold hsl
    dsimp only
    rw [hc, e, show (2 : Int32) = nI 2 from rfl, show (3 : Int32) = nI 3 from rfl, nI_mul, nI_add, nI_mul, nI_add, nI_cl (by omega)]
  unfold hgd at key
  by_cases c1 : c.2.1 = nm
  · exact key 0 (by omega) (by rw [if_pos c1]; rfl)
  · by_cases c2 : c.2.2 = nm
    · exact key 1 (by omega) (by rw [if_neg c1, if_pos c2]; rfl)
    · exact key 2 (by omega) (by rw [if_neg c1, if_neg c2]; rfl)
theorem hst_dead (hS : SR E ss a) (hT : wfT T) (hB : TBL H T acc ts b ss a 1 (fun _ _ _ => True)) {u : Nat} {c : Cf} {nm : Int32} (hu : u < a) (hc : c.1 = nI u) : hst (hyp H) c (nI 1, nm) = (-1, -1, -1) := by
  have ha := hS.1
  obtain ⟨g, hg, e⟩ := hsl_n (c := c) (nm := nm) (show u < 10 by omega) hc
  have e57 : (hyp H).1 (hsl c (nI 1, nm)) = -1 := by
    show H 57 _ = -1
    refine hB.2 _ (by omega) (fun u' y' i' hv => ?_)
    rw [e]
    unfold hsn
    have k2 := (kcr (T := T) (acc := acc) (ts := ts) (b := b) hS hT hv.1).2.2
    have hy' := hv.2.1
    split <;> omega
  unfold hst
  rw [if_neg (by rw [hc]; exact nI_n1 (by omega)), if_pos e57]
theorem hst_any (hS : SR E ss a) (hT : wfT T) (hZ : Z ≤ 2) (hZ1 : 1 ≤ Z) (hA : ALL T acc ts b ss a Z) (hB : TBL H T acc ts b ss a Z (fun _ _ _ => True)) {c : Cf} {y k : Nat} (hy : y < 2) (hk : k < 100) (h : GC T acc ts b ss a c) : GC T acc ts b ss a (hst (hyp H) c (nI y, nI k)) := by
  rcases h with rfl | ⟨u, hu, hc, hr, ho⟩
  · left
    unfold hst
    rw [if_pos rfl]
  · by_cases c1 : y < Z
    · right
      rw [hst_eq hS hT hZ hA hB hu c1 (show k < 2 ^ 31 - 1 by omega) hc hr]
      obtain ⟨⟨v, v1, v2, v3⟩, v4⟩ := hnx_ok hS hT hZ hA hu c1 (show k < 2 ^ 31 - 1 by omega) hc hr ho
      rw [Nat.max_eq_left (by omega)] at v4
      exact ⟨v, v1, v2, v3, v4⟩
    · left
      have e1 : Z = 1 := by omega
      have e2 : y = 1 := by omega
      subst e1 e2
      exact hst_dead hS hT hB hu hc
abbrev SGG (j k : Nat) : Prop := j = 281 ∧ (66 ≤ k ∧ k ≤ 68)
theorem gg_any (h : STN E T acc ts b ss a Z) (hZ : Z ≤ 2) (hZ1 : 1 ≤ Z) (hB : TBL H T acc ts b ss a Z (fun _ _ _ => True)) {c : Cf} {y k : Nat} (hy : y < 2) (hk : k < 100) (hc : GC T acc ts b ss a c) (hg : gGue E = c) : Y (f_X12_guessGoes (nI y) (nI k) E) (fun E' => Fr SGG E E' ∧ gGue E' = hst (hyp H) c (nI y, nI k)) := by
  have hS := h.1.2.2.1
  have hT := h.1.1.1
  have e66 : E 281 66 = c.1 := by rw [← hg]; rfl
  rcases hc with rfl | ⟨u, hu, hc, hr, ho⟩
  · unfold f_X12_guessGoes
    refine yPos e66 (yRet ⟨Fr.refl, ?_⟩)
    unfold hst
    rw [if_pos rfl]; exact hg
  · by_cases c1 : y < Z
    · rw [guessGoes_ok h hZ hu c1 (show k < 2 ^ 31 - 1 by omega) hg hc hr, hst_eq hS hT hZ h.2.2.1 hB hu c1 (show k < 2 ^ 31 - 1 by omega) hc hr]
      exact yRet ⟨setG_fr, gGue_set⟩
    · have e1 : Z = 1 := by omega
      have e2 : y = 1 := by omega
      subst e1 e2
      rw [hst_dead hS hT hB hu hc]
      unfold f_X12_guessGoes
      have ha := hS.1
      refine yNeg (by rw [e66, hc]; exact nI_n1 (by omega)) ?_
      have iY : f_X12_its 0 2 E = some (nI 1, E) := by
        rw [its_ok (k := 2) (q := 2) mc0 rfl (by omega), show E 282 (94 * 0 + 2) = nI 1 from h.2.1]
      rw [iY, bI_d]
      refine yNeg (nI_nlt (Nat.le_refl _) (by omega)) ?_
      rw [guesses_ok, bV_d]
      exact yRet ⟨setG_fr, gGue_set⟩
def RW2 (D E : Dm) (n : Nat) : Prop := n ≤ 12 ∧ D 17 3 = nI n ∧ E 281 18 = nI n ∧ ∀ k, k < n → E 285 k = D 18 k ∧ E 286 k = D 19 k ∧ (∃ y, y < 2 ∧ D 18 k = nI y) ∧ ∃ q, q < 100 ∧ D 19 k = nI q
theorem RW.two {n : Nat} (h : RW D n) : RW2 D D n := by
  obtain ⟨h1, h2, h3, h4⟩ := h
  refine ⟨h1, h2, h3, fun k hk => ?_⟩
  obtain ⟨q1, q2, q3, q4, q5⟩ := h4 k hk
  refine ⟨q1, q2, ?_, (D 19 k).toInt.toNat, by omega, nIt q4⟩
  rcases q3 with q | q
  · exact ⟨0, by omega, q⟩
  · exact ⟨1, by omega, q⟩
def hcf (H D : Dm) (p : Nat) : Cf := (lts (D 18) (D 19) 0 p).foldl (hst (hyp H)) c0
theorem hcf_s {p : Nat} : hcf H D (p + 1) = hst (hyp H) (hcf H D p) (D 18 p, D 19 p) := by
  unfold hcf
  rw [lts_snoc, List.foldl_append]; rfl
theorem hcf_ok (hS : SR E ss a) (hT : wfT T) (hp : PIv ts b ss Z) (hA : ALL T acc ts b ss a Z) (hB : TBL H T acc ts b ss a Z (fun _ _ _ => True)) {n : Nat} (hW : RW2 D D' n) : ∀ p, p ≤ n → GC T acc ts b ss a (hcf H D p) := by
  intro p
  induction p with
  | zero =>
    intro _
    right
    have ha := hS.1
    refine ⟨0, by omega, rfl, ?_, Or.inl rfl, Or.inl rfl⟩
    have k0 : kaN T acc ts b ss 0 = 0 := by
      have hc := hS.cu (T := T) hT (u := 0) (by omega)
      unfold kaN
      have e : hsN (cu T ss 0) = [] := by unfold cu; rw [hp.1]; rfl
      unfold kpN
      rw [e]; rfl
    rw [k0]
    exact ⟨rfl, rfl⟩
  | succ p ih =>
    intro h
    obtain ⟨-, -, ⟨y, hy, e1⟩, q, hq, e2⟩ := hW.2.2.2 p (by omega)
    rw [hcf_s, e1, e2]
    exact hst_any hS hT hp.2.2 hp.2.1 hA hB hy hq (ih (by omega))
theorem ga_ok (h : STN E T acc ts b ss a Z) (hp : PIv ts b ss Z) (hB : TBL H T acc ts b ss a Z (fun _ _ _ => True)) {n i : Nat} (hW : RW2 D E n) (hi : i ≤ n) : Y (f_X12_guessAlong (nI i) E) (fun E' => Fr SGG E E' ∧ gGue E' = hcf H D i) := by
  have hn := hW.1
  have hG := hcf_ok h.1.2.2.1 h.1.1.1 hp h.2.2.1 hB hW
  have loop : ∀ (j p z : Nat) (E1 : Dm), p + j = i → Fr SGG E E1 → gGue E1 = hcf H D p → Y (f_X12_guessAlong_9 (j + 1 + z) (nI i) (nI p) E1) (fun E' => Fr SGG E E' ∧ gGue E' = hcf H D i) := by
    intro j
    induction j with
    | zero =>
      intro p z E1 hp hF hg
      have hp : p = i := by omega
      rw [hp] at hg ⊢
      rw [show 0 + 1 + z = z + 1 by omega]
      show Y (f_X12_guessAlong_9_b _ _ _ _) _
      unfold f_X12_guessAlong_9_b
      exact yPos (nI_le (Nat.le_refl _) (by omega)) (yRet ⟨hF, hg⟩)
    | succ j ih =>
      intro p z E1 hpj hF hg
      rw [show j + 1 + 1 + z = (j + 1 + z) + 1 by omega]
      show Y (f_X12_guessAlong_9_b _ _ _ _) _
      unfold f_X12_guessAlong_9_b
      obtain ⟨q1, q2, ⟨y, hy, e1⟩, q, hq, e2⟩ := hW.2.2.2 p (by omega)
      refine yNeg (nI_nle2 (by omega) (by omega)) (yGd (inB_nI (by omega) (by omega)) (yGd (inB_nI (by omega) (by omega)) ?_))
      rw [nI_clamp (by omega), hF 285 p (by unfold SGG; omega), hF 286 p (by unfold SGG; omega), q1, q2, e1, e2]
      have h1 : STN E1 T acc ts b ss a Z := h.fr (fun j k q => hF j k (by unfold SGG; omega))
      refine yBV (gg_any h1 hp.2.2 hp.2.1 hB hy hq (hG p (by omega)) hg) (fun E2 h2 => yLt0 ?_)
      rw [nI_1]
      refine ih (p + 1) z E2 (by omega) (hF.tr h2.1) ?_
      rw [h2.2, hcf_s, e1, e2]
  unfold f_X12_guessAlong
  rw [guesses_ok, bV_d]
  obtain ⟨z, hz⟩ := FUs i (by omega)
  have := loop i 0 z (setG E (0, -1, -1)) (by omega) setG_fr (by rw [gGue_set]; rfl)
  rw [nI_0] at this
  rw [hz]
  exact this
theorem wk_ok (eh : hyp D = hyp H) {n i : Nat} (hW : RW2 D E n) (hi : i ≤ n) (hG : ∀ p, p ≤ n → GC T acc ts b ss a (hcf H D p)) (ha : a ≤ 10) : Y (f_X9_walk_h 266 17 (nI i) D) (fun D' => Fr (fun j k => j = 266 ∨ j = 267) D D' ∧ getGo D' 266 = hcf H D i) := by
  obtain ⟨hn, w3, -, wl⟩ := hW
  have loop : ∀ (j p m : Nat) (D1 : Dm), p + j = i → Fr (fun j k => j = 266 ∨ j = 267) D D1 → getGo D1 266 = hcf H D p → Y (f_X9_walk_h_7 (j + 1 + m) 266 17 (nI i) (nI p) D1) (fun D' => Fr (fun j k => j = 266 ∨ j = 267) D D' ∧ getGo D' 266 = hcf H D i) := by
    intro j
    induction j with
    | zero =>
      intro p m D1 hp hF hg
      rw [show 0 + 1 + m = m + 1 by omega]
      show Y (f_X9_walk_h_7_b _ _ _ _ _ _) _
      unfold f_X9_walk_h_7_b
      have hp : p = i := by omega
      rw [hp] at hg ⊢
      exact yPos (nI_le (Nat.le_refl _) (by omega)) (yRet ⟨hF, hg⟩)
    | succ j ih =>
      intro p m D1 hp hF hg
      rw [show j + 1 + 1 + m = (j + 1 + m) + 1 by omega]
      show Y (f_X9_walk_h_7_b _ _ _ _ _ _) _
      unfold f_X9_walk_h_7_b
      obtain ⟨-, -, ⟨y, hy, l1⟩, -⟩ := wl p (by omega)
      have eh1 : hyp D1 = hyp H := by
        rw [← eh]
        unfold hyp
        have e : ∀ j, 57 ≤ j → j ≤ 59 → D1 j = D j := fun j q1 q2 => funext (fun k => hF j k (by omega))
        rw [e 57 (by omega) (by omega), e 58 (by omega) (by omega), e 59 (by omega) (by omega)]
      rw [hF 17 3 (by omega), w3]
      refine yNeg (nI_nle2 (by omega) (by omega)) (yNeg (nI_nle2 (by omega) (by omega)) (yGd (inB_nI (by omega) (by omega)) (yGd (inB_nI (by omega) (by omega)) ?_)))
      rw [nI_clamp (by omega)]
      show Y (bV (f_X2_advance 266 (D1 18 p) (D1 19 p) D1) _) _
      rw [hF 18 p (by omega), hF 19 p (by omega)]
      have ad := adv_h (D := D1) (g := 266) (y := D 18 p) (nm := D 19 p) (by
        have e0 : D1 266 0 = (hcf H D p).1 := by rw [← hg]; rfl
        rw [e0]
        rcases hG p (by omega) with q | ⟨u, hu, q, -⟩
        · left; rw [q]
        · right; exact ⟨u, by omega, q⟩) (by rw [l1]; exact isSy_n hy) (Or.inl (by omega))
      rw [ad, bV_d, lt_d, nI_1]
      refine ih (p + 1) m _ (by omega) (hF.go (by omega) (by omega) (by omega)) ?_
      rw [getGo_set, hcf_s, hg, eh1]
  unfold f_X9_walk_h
  rw [go_start, bV_d]
  obtain ⟨z, hz⟩ := FUs i (by omega)
  have := loop i 0 z (setGo D 266 (0, -1, -1)) (by omega) (Fr.refl.go (by omega) (by omega) (by omega)) (by rw [getGo_set]; rfl)
  rw [nI_0] at this
  rw [hz]
  exact this
end
