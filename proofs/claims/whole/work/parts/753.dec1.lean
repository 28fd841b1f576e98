/-! ===== the class's hypothesis, what is proposed ===== -/
def hgd (c : Cf) (nm : Int32) : Int32 := if c.2.1 = nm then 0 else if c.2.2 = nm then 1 else 2
def hsl (c : Cf) (x : Lt) : Nat := (((c.1 * 2 + x.1) * 3) + hgd c x.2).toNatClampNeg
def hpk (f : Int32) (c : Cf) (nm : Int32) : Int32 := if f = -1 then -1 else if f = 2 then nm else if f = 0 then c.2.1 else c.2.2
/-- the hypothesis goes by a letter -/
def hst (H : Tb) (c : Cf) (x : Lt) : Cf := if c.1 = -1 then c else if H.1 (hsl c x) = -1 then (-1, -1, -1) else (H.1 (hsl c x), hpk (H.2.1 (hsl c x)) c x.2, hpk (H.2.2 (hsl c x)) c x.2)
def hyp (D : Dm) : Tb := (D 57, D 58, D 59)
theorem slot_n {u y g : Nat} : ((nI u * 2 + nI y) * 3) + nI g = nI ((u * 2 + y) * 3 + g) := by
  rw [show (2 : Int32) = nI 2 from rfl, nI_mul, nI_add, show (3 : Int32) = nI 3 from rfl, nI_mul, nI_add]
theorem hgd_3 {c : Cf} {nm : Int32} : ∃ g, g < 3 ∧ hgd c nm = nI g := by
  unfold hgd
  split
  · exact ⟨0, by omega, rfl⟩
  · split
    · exact ⟨1, by omega, rfl⟩
    · exact ⟨2, by omega, rfl⟩
theorem pick_ok {D : Dm} {f nm : Int32} {g : Nat} : f_X2_pick f g nm D = some (hpk f (getGo D g) nm, D) := by
  unfold f_X2_pick hpk
  split
  · rfl
  · split
    · rfl
    · split <;> rfl
theorem adv_h {D : Dm} {g : Nat} {y nm : Int32} (hs : stOK (D g 0) 10) (hy : isSy y) (hg : 59 < g ∨ g + 1 < 57) : f_X2_advance g y nm D = some (setGo D g (hst (hyp D) (getGo D g) (y, nm))) := by
  unfold f_X2_advance hst
  by_cases h : D g 0 = -1
  · rw [if_pos h, if_pos (show (getGo D g).1 = -1 from h), setGo_get]
  · rw [if_neg h, if_neg (show ¬ (getGo D g).1 = -1 from h)]
    obtain ⟨u, hu, eu⟩ := hs.resolve_left h
    obtain ⟨y', hy', ey⟩ : ∃ y', y' < 2 ∧ y = nI y' := by
      rcases hy with e | e
      · exact ⟨0, by omega, e⟩
      · exact ⟨1, by omega, e⟩
    obtain ⟨q, hq, eq⟩ := hgd_3 (c := getGo D g) (nm := nm)
    have eg : f_X2_guardFor g nm D = some (hgd (getGo D g) nm, D) := by
      unfold f_X2_guardFor hgd getGo
      split
      · rfl
      · split <;> rfl
    have es : hsl (getGo D g) (y, nm) = (u * 2 + y') * 3 + q := by
      unfold hsl
      show (((D g 0 * 2 + y) * 3) + hgd (getGo D g) nm).toNatClampNeg = _
      rw [eq, eu, ey, slot_n, nI_clamp (by omega)]
    rw [eg, bI_d]
    unfold f_X4_slot
    rw [bI_d, es, eq, eu, ey, slot_n, gd_t (inB_nI (by omega) (by omega)), nI_clamp (by omega), gd_t (inB_nI (by omega) (by omega)), pick_ok, bI_d, gd_t (inB_nI (by omega) (by omega)), pick_ok, bI_d, gd_t (inB_nI (by omega) (by omega))]
    show (if D 57 _ = -1 then _ else _) = some (setGo D g (if D 57 _ = -1 then _ else _))
    by_cases ht : D 57 ((u * 2 + y') * 3 + q) = -1
    · rw [if_pos ht, if_pos ht, go_lose, bV_d]
    · rw [if_neg ht, if_neg ht]
      rfl
theorem tak_h {D : Dm} {g : Nat} : f_X2_takes g D = some (b01 (tk (D 56 3) (getGo D g)), D) := by
  unfold f_X2_takes tk
  by_cases h : D g 0 = -1
  · rw [if_pos h, show (getGo D g).1 = D g 0 from rfl, decide_eq_false (fun q => q h)]; rfl
  · rw [if_neg h, show (getGo D g).1 = D g 0 from rfl, decide_eq_true h, Bool.true_and]
    by_cases h2 : ((D 56 3 >>> (D g 0 &&& 31)) &&& 1) = 0
    · rw [if_pos h2, decide_eq_false (fun q => q h2)]; rfl
    · rw [if_neg h2, decide_eq_true h2]; rfl
/-- the proposed word -/
def PWd (D : Dm) (l : List Lt) : Prop := isW D 68 l.length ∧ l = lts (D 69) (D 70) 0 l.length
theorem PWd.fr {D D' : Dm} {l : List Lt} (h : PWd D l) (hF : ∀ j k, 68 ≤ j → j ≤ 71 → D' j k = D j k) : PWd D' l := by
  have e1 : D' 69 = D 69 := funext (fun k => hF _ k (by omega) (by omega))
  have e2 : D' 70 = D 70 := funext (fun k => hF _ k (by omega) (by omega))
  refine ⟨isW_congr h.1 (hF _ _ (by omega) (by omega)) (hF _ _ (by omega) (by omega)) (fun k _ => hF _ _ (by omega) (by omega)) (fun k _ => hF _ _ (by omega) (by omega)), ?_⟩
  rw [e1, e2]; exact h.2
theorem PWd_add {D : Dm} {l : List Lt} {s nm : Int32} (h : PWd D l) (hl : l.length < 20) : f_X10_add 68 s nm D = some (adD D 68 l.length s nm) ∧ PWd (adD D 68 l.length s nm) (l ++ [(s, nm)]) ∧ Fr (fun j k => 68 ≤ j ∧ j ≤ 71) D (adD D 68 l.length s nm) := by
  refine ⟨add_ok h.1 hl, ⟨by rw [List.length_append]; exact adD_isW h.1 hl, ?_⟩, fun j k q => adD_ne (by omega)⟩
  rw [List.length_append]
  show _ = lts _ _ 0 (l.length + 1)
  have key : lts (adD D 68 l.length s nm (68 + 1)) (adD D 68 l.length s nm (68 + 2)) 0 (l.length + 1) = lts (D 69) (D 70) 0 l.length ++ [(s, nm)] := by
    refine lts_app (fun k hk => ?_) ?_ ?_
    · rw [adD_s, adD_n, if_neg (by omega), if_neg (by omega)]
      exact ⟨rfl, rfl⟩
    · rw [adD_s, if_pos rfl]
    · rw [adD_n, if_pos rfl]
  refine Eq.trans ?_ key.symm
  rw [← h.2]
theorem PWd_clear {D : Dm} : f_X10_clear 68 D = some (ud (ud D 68 3 0) 68 4 0) ∧ PWd (ud (ud D 68 3 0) 68 4 0) [] ∧ Fr (fun j k => 68 ≤ j ∧ j ≤ 71) D (ud (ud D 68 3 0) 68 4 0) := ⟨clear_ok, ⟨clear_isW, rfl⟩, (Fr.refl.ud (by omega)).ud (by omega)⟩
theorem shn_some {F : Nat → Option (List Nat)} : ∀ {b : Nat} {x : Nat × List Nat}, shn F b = some x → x.1 < b ∧ F x.1 = some x.2
  | 0, x, h => by cases h
  | b + 1, x, h => by
    unfold shn at h
    cases h2 : shn F b with
    | some z =>
      rw [h2] at h
      cases h
      have := shn_some h2
      exact ⟨by omega, this.2⟩
    | none =>
      rw [h2] at h
      obtain ⟨gs, e1, e2⟩ := Option.map_eq_some_iff.mp h
      rw [← e2]
      exact ⟨by show b < b + 1; omega, e1⟩
section
variable {D : Dm} {T : Tb} {acc : Int32} {ts ss : Tst} {b a : Nat}
theorem shE_some (hT : okT ts b) {c : Cf} {e : Nat} {x : Nat × List Nat} (hl : (hsN c).length ≤ 2) (h : shE1 T acc ts c b e = some x) : x.1 < b ∧ ∃ q, q < 3 ^ (ts x.1).2 ∧ dgs (ts x.1).2 q = x.2 ∧ val x.2 = q ∧ okD (hsN c).length x.2 = true := by
  obtain ⟨h1, h2⟩ := shn_some h
  have hd := (hT x.1 h1).1
  rw [fsh_num (by omega) (by omega)] at h2
  obtain ⟨q, e1, e2⟩ := Option.map_eq_some_iff.mp h2
  have hq := fst1_lt e1
  have hs := fst1_some e1
  rw [Bool.and_eq_true] at hs
  exact ⟨h1, q, hq, e2, by rw [← e2, val_dgs _ (by omega) q hq], by rw [← e2]; exact hs.1⟩
/-- what is proposed where a name is shown that should have been remembered -/
def prL (ts : Tst) (c : Cf) (y k : Nat) (x : Nat × List Nat) : List Lt := (nI y, nI k) :: ins (ts x.1).1 (nmg 1000 (lnm (hsN c)) x.2)
theorem pls_ok (hS : TS D ts b) (h6 : ∀ t, t < b → (ts t).1.length ≤ 6) {c : Cf} {e y k : Nat} {x : Nat × List Nat} (hL : PR D 46 T acc ts b c) (hl : (hsN c).length ≤ 2) (he : e < (hsN c).length) (hx : shE1 T acc ts c b e = some x) : Y (f_X3_proposeShown (nI y) (nI k) (nI e) D) (fun D' => Fr (fun j k => j = 78 ∨ j = 79 ∨ (68 ≤ j ∧ j ≤ 71)) D D' ∧ PWd D' (prL ts c y k x)) := by
  obtain ⟨hb, q, hq, eq, ev, eo⟩ := shE_some hS.okT hl hx
  have hsh := hL.s e he
  rw [hx] at hsh
  obtain ⟨x1, x2, x3⟩ := hsh
  have x2 : D 50 e = nI x.1 := x2
  have x3 : D 51 e = nI (val x.2) := x3
  have hb10 := hS.1
  obtain ⟨n, hn, w3, w4, hd, wl, hs⟩ := hS.2.2 x.1 hb
  unfold f_X3_proposeShown
  rw [nI_clamp (by omega), x2, nI_clamp (by omega), ar77 x.1 (by omega), x3, ev, hL.h.2.1]
  refine yGd (inB_nI (by omega) (by omega)) (yGd (inB_nI (by omega) (by omega)) (yGd (inB_nI (by omega) (by omega)) ?_))
  refine yBI (nb_ok (r2 := 82 + 4 * x.1) (r3 := 49) (by omega) (by omega) hl hd w4 hq) (fun r D1 h1 => ?_)
  dsimp only at h1
  obtain ⟨-, hF1, hok⟩ := h1
  rw [eq] at hok
  obtain ⟨-, hnm⟩ := hok eo
  obtain ⟨c1, c2, c3⟩ := PWd_clear (D := D1)
  rw [c1, bV_d]
  obtain ⟨a1, a2, a3⟩ := PWd_add (s := nI y) (nm := nI k) c2 (by simp)
  rw [show ([] : List Lt).length = 0 from rfl] at a1 a2 a3
  rw [a1, bV_d]
  generalize hD2 : adD (ud (ud D1 68 3 0) 68 4 0) 68 0 (nI y) (nI k) = D2 at *
  have hF2 : Fr (fun j k => 68 ≤ j ∧ j ≤ 71) D1 D2 := c3.tr a3
  have hFD : Fr (fun j k => j = 78 ∨ j = 79 ∨ (68 ≤ j ∧ j ≤ 71)) D D2 := (hF1.mono (fun j k q => by unfold SN at q; omega)).tr (hF2.mono (fun j k q => by omega))
  have tl : (ts x.1).1 = lts (D (82 + 4 * x.1 + 1)) (D (82 + 4 * x.1 + 2)) 0 n := wl
  have tlen : (ts x.1).1.length = n := by rw [tl, lts_len]
  -- letters, one by one
  have loop : ∀ (j i m : Nat) (D3 : Dm), i + j = n → Fr (fun j k => 68 ≤ j ∧ j ≤ 71) D2 D3 → PWd D3 ((nI y, nI k) :: ins (lts (D (82 + 4 * x.1 + 1)) (D (82 + 4 * x.1 + 2)) 0 i) (nmg 1000 (lnm (hsN c)) x.2)) → n ≤ 18 → Y (f_X3_proposeShown_71 (j + 1 + m) (82 + 4 * x.1) (nI i) D3) (fun D' => Fr (fun j k => 68 ≤ j ∧ j ≤ 71) D2 D' ∧ PWd D' (prL ts c y k x)) := by
    intro j
    induction j with
    | zero =>
      intro i m D3 hi hF hP hn18
      have hi : i = n := by omega
      rw [show 0 + 1 + m = m + 1 by omega]
      show Y (f_X3_proposeShown_71_b _ _ _ _) _
      unfold f_X3_proposeShown_71_b
      rw [hi] at hP ⊢
      rw [hF _ _ (by omega), hFD _ _ (by omega), w3]
      refine yPos (nI_le (Nat.le_refl _) (by omega)) (yRet ⟨hF, ?_⟩)
      unfold prL
      rw [tl]; exact hP
    | succ j ih =>
      intro i m D3 hi hF hP hn18
      rw [show j + 1 + 1 + m = (j + 1 + m) + 1 by omega]
      show Y (f_X3_proposeShown_71_b _ _ _ _) _
      unfold f_X3_proposeShown_71_b
      obtain ⟨hy, q', hq', eq'⟩ := hs i (by omega)
      have r1 : D3 (82 + 4 * x.1 + 1) i = D (82 + 4 * x.1 + 1) i := by rw [hF _ _ (by omega), hFD _ _ (by omega)]
      have r2 : D3 (82 + 4 * x.1 + 2) i = nI q' := by rw [hF _ _ (by omega), hFD _ _ (by omega)]; exact eq'
      have r78 : D3 78 q' = nmg 1000 (lnm (hsN c)) x.2 (nI q') := by
        rw [hF _ _ (by omega), hF2 _ _ (by omega), hnm q' hq', nmg_at (by omega)]
        unfold dnm
        split
        · rfl
        · rename_i hz
          have h1 := dig_le eo q'
          exact hL.h.2.2 _ (by omega)
      rw [hF _ 3 (by omega), hFD _ _ (by omega), w3, nI_clamp (show i < 2 ^ 31 by omega), r1, r2, nI_clamp (by omega), r78]
      refine yNeg (nI_nle2 (by omega) (by omega)) (yGd (inB_nI (by omega) (by omega)) (yGd (inB_nI (by omega) (by omega)) (yGd (inB_nI (by omega) (by omega)) ?_)))
      have len : ((nI y, nI k) :: ins (lts (D (82 + 4 * x.1 + 1)) (D (82 + 4 * x.1 + 2)) 0 i) (nmg 1000 (lnm (hsN c)) x.2)).length = i + 1 := by simp [ins, lts_len]
      obtain ⟨b1, b2, b3⟩ := PWd_add (s := D (82 + 4 * x.1 + 1) i) (nm := nmg 1000 (lnm (hsN c)) x.2 (nI q')) hP (by rw [len]; omega)
      rw [b1, bV_d, lt_d, nI_1]
      refine ih (i + 1) m _ (by omega) (hF.tr b3) ?_ hn18
      rw [lts_snoc, eq']
      have : ins (lts (D (82 + 4 * x.1 + 1)) (D (82 + 4 * x.1 + 2)) 0 i ++ [(D (82 + 4 * x.1 + 1) i, nI q')]) (nmg 1000 (lnm (hsN c)) x.2) = ins (lts (D (82 + 4 * x.1 + 1)) (D (82 + 4 * x.1 + 2)) 0 i) (nmg 1000 (lnm (hsN c)) x.2) ++ [(D (82 + 4 * x.1 + 1) i, nmg 1000 (lnm (hsN c)) x.2 (nI q'))] := by
        unfold ins; rw [List.map_append]; rfl
      rw [this]
      exact b2
  obtain ⟨q', hq'⟩ := FUs n (by omega)
  have n6 := h6 x.1 hb
  have := loop n 0 q' D2 (by omega) Fr.refl a2 (by omega)
  rw [nI_0] at this
  rw [hq']
  exact yMono this (fun D' h' => ⟨hFD.tr (h'.1.mono (fun j k q => by omega)), h'.2⟩)
end
