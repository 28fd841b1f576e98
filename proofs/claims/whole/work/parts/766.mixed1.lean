/-! ===== mixed words ===== -/
def mxv (ku : List Nat) (c : Cf) (bs : Nat) (n : Int32) : Int32 := if plI ku n.toNatClampNeg = -1 then nI bs + n else if plI ku n.toNatClampNeg = 0 then c.2.1 else c.2.2
def mixC (T : Tb) (ku : List Nat) (l : List Lt) (bs : Nat) (c : Cf) (rest : List Lt) : Cf := run T (run T c0 (ins l (mxv ku c bs))) rest
theorem mix_base {T : Tb} {acc : Int32} {ku : List Nat} {l rest : List Lt} {c : Cf} (hc : okC c 20) (hl : ∀ x ∈ l, ∃ k, k < 4 ∧ x.2 = nI k) (hr : ∀ x ∈ rest, ∃ k, k < 20 ∧ x.2 = nI k) : tk acc (mixC T ku l 1000 c rest) = tk acc (mixC T ku l 100 c rest) := by
  have hR : Bij (fun x x' : Int32 => (x = x' ∧ (x = -1 ∨ ∃ q, q < 20 ∧ x = nI q)) ∨ ∃ k, k < 4 ∧ x = nI (1000 + k) ∧ x' = nI (100 + k)) := by
    refine ⟨Or.inl ⟨rfl, Or.inl rfl⟩, fun x x' y y' h1 h2 => ?_⟩
    rcases h1 with ⟨rfl, h1⟩ | ⟨k, hk, rfl, rfl⟩ <;> rcases h2 with ⟨rfl, h2⟩ | ⟨k', hk', rfl, rfl⟩
    · exact Iff.rfl
    · rcases h1 with rfl | ⟨q, hq, rfl⟩
      · exact ⟨fun e => absurd e.symm (nI_n1 (by omega)), fun e => absurd e.symm (nI_n1 (by omega))⟩
      · exact ⟨fun e => by have := nI_inj (by omega) (by omega) e; omega, fun e => by have := nI_inj (by omega) (by omega) e; omega⟩
    · rcases h2 with rfl | ⟨q, hq, rfl⟩
      · exact ⟨fun e => absurd e (nI_n1 (by omega)), fun e => absurd e (nI_n1 (by omega))⟩
      · exact ⟨fun e => by have := nI_inj (by omega) (by omega) e; omega, fun e => by have := nI_inj (by omega) (by omega) e; omega⟩
    · exact ⟨fun e => by have := nI_inj (by omega) (by omega) e; rw [show k = k' by omega], fun e => by have := nI_inj (by omega) (by omega) e; rw [show k = k' by omega]⟩
  have w1 : ∀ w : List Lt, (∀ x ∈ w, ∃ k, k < 20 ∧ x.2 = nI k) → SimW (fun x x' : Int32 => (x = x' ∧ (x = -1 ∨ ∃ q, q < 20 ∧ x = nI q)) ∨ ∃ k, k < 4 ∧ x = nI (1000 + k) ∧ x' = nI (100 + k)) w w := by
    intro w
    induction w with
    | nil => intro _; exact trivial
    | cons x w ih =>
      intro h
      obtain ⟨k, hk, e⟩ := h x List.mem_cons_self
      exact ⟨rfl, Or.inl ⟨rfl, Or.inr ⟨k, hk, e⟩⟩, ih (fun z hz => h z (List.mem_cons_of_mem _ hz))⟩
  refine tk_sim (sim_run hR (w1 rest hr) (sim_run hR (SimW.map (fun x hx => ?_)) ⟨rfl, Or.inl ⟨rfl, Or.inl rfl⟩, Or.inl ⟨rfl, Or.inl rfl⟩⟩))
  obtain ⟨k, hk, e⟩ := hl x hx
  unfold mxv
  rw [e]
  by_cases c1 : plI ku (nI k).toNatClampNeg = -1
  · rw [if_pos c1, if_pos c1]
    exact Or.inr ⟨k, hk, by rw [nI_add], by rw [nI_add]⟩
  · rw [if_neg c1, if_neg c1]
    split
    · exact Or.inl ⟨rfl, hc.1⟩
    · exact Or.inl ⟨rfl, hc.2⟩
theorem take_s {w : List Lt} {p : Nat} (h : p < w.length) : w.take (p + 1) = w.take p ++ [w.getD p (0, 0)] := by
  rw [List.take_add_one, List.getElem?_eq_getElem h, List.getD_eq_getElem?_getD, List.getElem?_eq_getElem h]; rfl
theorem drop_s {w : List Lt} {p : Nat} (h : p < w.length) : w.drop p = w.getD p (0, 0) :: w.drop (p + 1) := by
  rw [List.drop_eq_getElem_cons h, List.getD_eq_getElem?_getD, List.getElem?_eq_getElem h]; rfl
/-- a word of the class at 60 -/
def WD (D : Dm) (w : List Lt) : Prop := w.length ≤ 20 ∧ D 60 3 = nI w.length ∧ ∀ p, p < w.length → D 61 p = (w.getD p (0, 0)).1 ∧ D 62 p = (w.getD p (0, 0)).2
theorem getD_mem {w : List Lt} {p : Nat} (h : p < w.length) : w.getD p (0, 0) ∈ w := by
  rw [List.getD_eq_getElem?_getD, List.getElem?_eq_getElem h]; exact List.getElem_mem _
section
variable {D0 : Dm} {T : Tb} {acc : Int32} {ts ss : Tst} {b a : Nat} {w : List Lt}
theorem walkh_ok (hW : WD D0 w) (hs : ∀ p, p ≤ w.length → stOK ((w.take p).foldl (hst (hyp D0)) c0).1 10) (hy : ∀ x ∈ w, isSy x.1) {i : Nat} (hi : i ≤ w.length) : Y (f_X9_walk_h 72 60 (nI i) D0) (fun D' => Fr (fun j k => j = 72 ∨ j = 73) D0 D' ∧ getGo D' 72 = (w.take i).foldl (hst (hyp D0)) c0) := by
  obtain ⟨w20, w3, wl⟩ := hW
  have loop : ∀ (j p m : Nat) (D : Dm), p + j = i → Fr (fun j k => j = 72 ∨ j = 73) D0 D → getGo D 72 = (w.take p).foldl (hst (hyp D0)) c0 → Y (f_X9_walk_h_7 (j + 1 + m) 72 60 (nI i) (nI p) D) (fun D' => Fr (fun j k => j = 72 ∨ j = 73) D0 D' ∧ getGo D' 72 = (w.take i).foldl (hst (hyp D0)) c0) := by
    intro j
    induction j with
    | zero =>
      intro p m D hp hF hg
      rw [show 0 + 1 + m = m + 1 by omega]
      show Y (f_X9_walk_h_7_b _ _ _ _ _ _) _
      unfold f_X9_walk_h_7_b
      have hp : p = i := by omega
      rw [hp] at hg ⊢
      exact yPos (nI_le (Nat.le_refl _) (by omega)) (yRet ⟨hF, hg⟩)
    | succ j ih =>
      intro p m D hp hF hg
      rw [show j + 1 + 1 + m = (j + 1 + m) + 1 by omega]
      show Y (f_X9_walk_h_7_b _ _ _ _ _ _) _
      unfold f_X9_walk_h_7_b
      have hpl : p < w.length := by omega
      obtain ⟨l1, l2⟩ := wl p hpl
      have eh : hyp D = hyp D0 := by
        unfold hyp
        have e : ∀ j, 57 ≤ j → j ≤ 59 → D j = D0 j := fun j q1 q2 => funext (fun k => hF j k (by omega))
        rw [e 57 (by omega) (by omega), e 58 (by omega) (by omega), e 59 (by omega) (by omega)]
      rw [hF 60 3 (by omega), w3]
      refine yNeg (nI_nle2 (by omega) (by omega)) (yNeg (nI_nle2 (by omega) (by omega)) (yGd (inB_nI (by omega) (by omega)) (yGd (inB_nI (by omega) (by omega)) ?_)))
      rw [nI_clamp (by omega)]
      show Y (bV (f_X2_advance 72 (D 61 p) (D 62 p) D) _) _
      rw [hF 61 p (by omega), hF 62 p (by omega), l1, l2]
      have ad := adv_h (D := D) (g := 72) (y := (w.getD p (0, 0)).1) (nm := (w.getD p (0, 0)).2) (by
        have := hs p (by omega)
        rw [← hg] at this; exact this) (hy _ (getD_mem hpl)) (Or.inl (by omega))
      rw [ad, bV_d, lt_d, nI_1]
      refine ih (p + 1) m _ (by omega) (hF.go (by omega) (by omega) (by omega)) ?_
      rw [getGo_set, take_s hpl, List.foldl_append, ← hg, eh]
      rfl
  unfold f_X9_walk_h
  rw [go_start, bV_d]
  obtain ⟨z, hz⟩ := FUs i (by omega)
  have := loop i 0 z (setGo D0 72 (0, -1, -1)) (by omega) (Fr.refl.go (by omega) (by omega) (by omega)) (by rw [getGo_set]; rfl)
  rw [nI_0] at this
  rw [hz]
  exact this
theorem tm131 (hM : MC D0 T acc) (hW : WD D0 w) (hy : ∀ x ∈ w, isSy x.1) {C : Cf} : ∀ (j p m : Nat) (D : Dm), p + j = w.length → Fr (fun j k => 72 ≤ j ∧ j ≤ 75) D0 D → okSt (D 74 0) → run T (getGo D 74) (w.drop p) = C → Y (f_X3_takesMixed_131 (j + 1 + m) (nI p) D) (fun r => r.1 = b01 (tk acc C) ∧ Fr (fun j k => 72 ≤ j ∧ j ≤ 75) D0 r.2) := by
  obtain ⟨w20, w3, wl⟩ := hW
  intro j
  induction j with
  | zero =>
    intro p m D hp hF hs hr
    have hp : p = w.length := by omega
    rw [show 0 + 1 + m = m + 1 by omega]
    show Y (f_X3_takesMixed_131_b _ _ _) _
    unfold f_X3_takesMixed_131_b
    rw [hF 60 3 (by omega), w3]
    rw [hp, List.drop_length] at hr
    have hr : getGo D 74 = C := hr
    refine yPos (by rw [hp]; exact nI_le (Nat.le_refl _) (by omega)) ?_
    rw [(hM.fr (fun j k q1 q2 => hF j k (by omega))).takes, bI_d, hr]
    refine yGd ?_ (yRet ⟨rfl, hF⟩)
    cases tk acc C <;> decide
  | succ j ih =>
    intro p m D hp hF hs hr
    rw [show j + 1 + 1 + m = (j + 1 + m) + 1 by omega]
    show Y (f_X3_takesMixed_131_b _ _ _) _
    unfold f_X3_takesMixed_131_b
    have hpl : p < w.length := by omega
    obtain ⟨l1, l2⟩ := wl p hpl
    have hMD : MC D T acc := hM.fr (fun j k q1 q2 => hF j k (by omega))
    have sy := hy _ (getD_mem hpl)
    rw [hF 60 3 (by omega), w3]
    refine yNeg (nI_nle2 (by omega) (by omega)) (yGd (inB_nI (by omega) (by omega)) (yGd (inB_nI (by omega) (by omega)) ?_))
    rw [nI_clamp (by omega), hF 61 p (by omega), hF 62 p (by omega), l1, l2, hMD.adv hs sy (by omega), bV_d, lt_d, nI_1]
    refine ih (p + 1) m _ (by omega) (hF.go (by omega) (by omega) (by omega)) ?_ ?_
    · rw [setGo_at, if_pos ⟨rfl, rfl⟩]
      exact step_ok hM.wfT hs sy
    · rw [getGo_set, ← hr, drop_s hpl]; rfl
end
