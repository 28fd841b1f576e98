/-! ===== the class's learner: its words, profiles, longer words ===== -/
def SC (D : Dm) (ss : Tst) (a : Nat) : Prop := (1 ≤ a ∧ a ≤ 10) ∧ D 43 4 = nI a ∧ ∀ u, u < a → ∃ n, n ≤ 6 ∧ isW D (122 + 14 * u) n ∧ (ss u).1 = lts (D (122 + 14 * u + 1)) (D (122 + 14 * u + 2)) 0 n ∧ (ss u).2 = dsf (D (122 + 14 * u + 2)) n ∧ (ss u).2 ≤ 3 ∧ ∀ k, k < n → isSy (D (122 + 14 * u + 1) k) ∧ ∃ j, j < (ss u).2 ∧ D (122 + 14 * u + 2) k = nI j
theorem SC.fr {D D' : Dm} {ss : Tst} {a : Nat} (h : SC D ss a) (h4 : D' 43 4 = D 43 4) (hF : ∀ j k, 122 ≤ j → j ≤ 261 → (j - 122) % 14 < 4 → D' j k = D j k) : SC D' ss a := by
  obtain ⟨h1, h2, h3⟩ := h
  refine ⟨h1, by rw [h4, h2], fun u hu => ?_⟩
  obtain ⟨n, hn, hw, rest⟩ := h3 u hu
  have e1 : D' (122 + 14 * u + 1) = D (122 + 14 * u + 1) := funext (fun k => hF _ k (by omega) (by omega) (by omega))
  have e2 : D' (122 + 14 * u + 2) = D (122 + 14 * u + 2) := funext (fun k => hF _ k (by omega) (by omega) (by omega))
  refine ⟨n, hn, isW_congr hw (hF _ _ (by omega) (by omega) (by omega)) (hF _ _ (by omega) (by omega) (by omega)) (fun k _ => by rw [e2]) (fun k _ => hF _ _ (by omega) (by omega) (by omega)), ?_⟩
  rw [e1, e2]
  exact rest
section
variable {D : Dm} {T : Tb} {acc : Int32} {ts ss : Tst} {b a : Nat}
theorem SC.sy (h : SC D ss a) {u : Nat} (hu : u < a) : (ss u).2 ≤ 3 ∧ (ss u).1.length ≤ 6 ∧ ∀ x ∈ (ss u).1, isSy x.1 ∧ ∃ k, k < (ss u).2 ∧ x.2 = nI k := by
  obtain ⟨n, hn, -, el, -, hd, hs⟩ := h.2.2 u hu
  refine ⟨hd, by rw [el, lts_len]; exact hn, fun x hx => ?_⟩
  rw [el] at hx
  obtain ⟨k, -, hk, rfl⟩ := lts_mem hx
  exact hs k (by omega)
theorem SC.cu (h : SC D ss a) (hT : wfT T) {u : Nat} (hu : u < a) : okSt (cu T ss u).1 ∧ okC (cu T ss u) (ss u).2 :=
  ⟨run_ok hT c0_ok (fun x hx => ((h.sy hu).2.2 x hx).1), run_okC (fun x hx => ((h.sy hu).2.2 x hx).2)⟩
theorem SC.cl (h : SC D ss a) (hT : wfT T) {u y k : Nat} (hu : u < a) (hy : y < 2) (hk : k ≤ (ss u).2) : okSt (cl T ss u y k).1 ∧ okC (cl T ss u y k) (lgM (ss u).2 k) := by
  obtain ⟨h1, h2, h3⟩ := h.sy hu
  have hg := lgM_le hk
  rw [← lg_run]
  refine ⟨run_ok hT c0_ok (fun x hx => ?_), run_okC (fun x hx => ?_)⟩
  · rcases List.mem_append.mp hx with q | q
    · exact (h3 x q).1
    · have : x = (nI y, nI k) := by simpa using q
      rw [this]; exact isSy_n hy
  · rcases List.mem_append.mp hx with q | q
    · obtain ⟨-, j, hj, e⟩ := h3 x q
      exact ⟨j, by omega, e⟩
    · have : x = (nI y, nI k) := by simpa using q
      rw [this]; exact ⟨k, by omega, rfl⟩
theorem SC.ww (h : SC D ss a) {u : Nat} (hu : u < a) : WW D (122 + 14 * u) (ss u).1 (ss u).2 := by
  obtain ⟨n, hn, hw, el, -, hd, hs⟩ := h.2.2 u hu
  exact ⟨n, by omega, hw.2.1, el, hs⟩
/-- the profiles of the short words stand -/
def PS (D : Dm) (T : Tb) (acc : Int32) (ts : Tst) (b : Nat) (ss : Tst) (a : Nat) : Prop := ∀ u, u < a → PR D (126 + 14 * u) T acc ts b (cu T ss u)
theorem PS.fr {D D' : Dm} (h : PS D T acc ts b ss a) (ha : a ≤ 10) (hF : ∀ j k, 126 ≤ j → j ≤ 261 → 4 ≤ (j - 122) % 14 → D' j k = D j k) : PS D' T acc ts b ss a :=
  fun u hu => (h u hu).fr (fun j k h1 h2 => hF j k (by omega) (by omega) (by omega))
theorem ar45 : ∀ u, u < 10 → ar_45 u = 126 + 14 * u := by decide +kernel
abbrev SPf (j k : Nat) : Prop := (126 ≤ j ∧ j ≤ 261 ∧ 4 ≤ (j - 122) % 14) ∨ (78 ≤ j ∧ j ≤ 81) ∨ (j = 43 ∧ k = 16)
/-- the class's learner, all that isn't kept from call to call left out -/
def LCs (D : Dm) (T : Tb) (acc : Int32) (ts : Tst) (b : Nat) (ss : Tst) (a : Nat) : Prop := MC D T acc ∧ TS D ts b ∧ SC D ss a
theorem LCs.fr {D D' : Dm} (h : LCs D T acc ts b ss a) (hF : ∀ j k, ((9 ≤ j ∧ j ≤ 12) ∨ j = 76 ∨ (82 ≤ j ∧ j ≤ 121) ∨ (j = 43 ∧ k = 4) ∨ (122 ≤ j ∧ j ≤ 261 ∧ (j - 122) % 14 < 4)) → D' j k = D j k) : LCs D' T acc ts b ss a :=
  ⟨h.1.fr (fun j k h1 h2 => hF j k (by omega)), h.2.1.fr (fun j k q => hF j k (by omega)), h.2.2.fr (hF _ _ (by omega)) (fun j k h1 h2 h3 => hF j k (by omega))⟩
theorem lsw_ok (h : LCs D T acc ts b ss a) (hp : D 43 16 = 0 ∨ (D 43 16 = 1 ∧ PS D T acc ts b ss a)) : Y (f_X3_lookAtShortWords D) (fun D' => Fr SPf D D' ∧ D' 43 16 = 1 ∧ PS D' T acc ts b ss a) := by
  have ha := h.2.2.1
  unfold f_X3_lookAtShortWords
  refine yIte (fun e => yLt (fun D1 hD1 => ?_)) (fun e => yRet ?_)
  · have hF1 : Fr SPf D D1 := by rw [hD1]; exact Fr.refl.ud (by unfold SPf; omega)
    have loop : ∀ (j i m : Nat) (D' : Dm), i + j = a → Fr SPf D D' → D' 43 16 = 1 → (∀ u, u < i → PR D' (126 + 14 * u) T acc ts b (cu T ss u)) → Y (f_X3_lookAtShortWords_15 (j + 1 + m) (nI i) D') (fun D' => Fr SPf D D' ∧ D' 43 16 = 1 ∧ PS D' T acc ts b ss a) := by
      intro j
      induction j with
      | zero =>
        intro i m D' hi hF h16 hP
        have hi : i = a := by omega
        have h' := h.fr (D' := D') (fun j k q => hF j k (by unfold SPf; omega))
        rw [show 0 + 1 + m = m + 1 by omega]
        show Y (f_X3_lookAtShortWords_15_b _ _ _) _
        unfold f_X3_lookAtShortWords_15_b
        rw [h'.2.2.2.1]
        rw [hi] at hP ⊢
        exact yPos (nI_le (Nat.le_refl _) (by omega)) (yRet ⟨hF, h16, hP⟩)
      | succ j ih =>
        intro i m D' hi hF h16 hP
        have h' := h.fr (D' := D') (fun j k q => hF j k (by unfold SPf; omega))
        rw [show j + 1 + 1 + m = (j + 1 + m) + 1 by omega]
        show Y (f_X3_lookAtShortWords_15_b _ _ _) _
        unfold f_X3_lookAtShortWords_15_b
        rw [h'.2.2.2.1, nI_clamp (by omega), ar45 i (by omega), ar44 i (by omega)]
        refine yNeg (nI_nle2 (by omega) (by omega)) (yGd (inB_nI (by omega) (by omega)) (yGd (inB_nI (by omega) (by omega)) ?_))
        have hd := (h'.2.2.sy (show i < a by omega)).1
        refine yBV (look_ok (r0 := 126 + 14 * i) (r2 := 122 + 14 * i) h'.1 h'.2.1 (by omega) (by omega) (by omega) (h'.2.2.ww (by omega)) (by omega)) (fun D2 h2 => ?_)
        obtain ⟨hF2, hP2⟩ := h2
        rw [lt_d, nI_1]
        have hF2' : Fr SPf D D2 := hF.tr (hF2.mono (fun j k q => by unfold SP at q; unfold SPf; omega))
        refine ih (i + 1) m D2 (by omega) hF2' (by rw [hF2 _ _ (by unfold SP; omega)]; exact h16) (fun u hu => ?_)
        by_cases eu : u = i
        · rw [eu]; exact hP2
        · exact (hP u (by omega)).fr (fun j k q1 q2 => hF2 j k (by unfold SP; omega))
    obtain ⟨q, hq⟩ := FUs a (by omega)
    have := loop a 0 q D1 (by omega) hF1 (by rw [hD1, ud_at, if_pos ⟨rfl, rfl⟩]) (fun u hu => absurd hu (Nat.not_lt_zero u))
    rw [nI_0] at this
    rw [hq]
    exact this
  · rcases hp with q | q
    · exact absurd q e
    · exact ⟨Fr.refl, q.1, q.2⟩
abbrev SLk (j k : Nat) : Prop := (46 ≤ j ∧ j ≤ 55) ∨ (64 ≤ j ∧ j ≤ 67) ∨ (78 ≤ j ∧ j ≤ 81)
theorem lts_app {f g s t : Nat → Int32} {n : Nat} {y nm : Int32} (hs : ∀ k, k < n → s k = f k ∧ t k = g k) (h1 : s n = y) (h2 : t n = nm) : lts s t 0 (n + 1) = lts f g 0 n ++ [(y, nm)] := by
  rw [lts_snoc, h1, h2]
  congr 1
  exact lts_congr (fun k _ hk => hs k (by omega))
theorem ml_ok (h : SC D ss a) {u k : Nat} {y : Int32} (hu : u < a) (hy : isSy y) (hk : k ≤ (ss u).2) : Y (f_X3_makeLonger (nI u) y (nI k) D) (fun D' => Fr (fun j k => 64 ≤ j ∧ j ≤ 67) D D' ∧ WW D' 64 ((ss u).1 ++ [(y, nI k)]) (lgM (ss u).2 k) ∧ ∃ n, isW D' 64 (n + 1) ∧ n + 1 = ((ss u).1 ++ [(y, nI k)]).length ∧ D' 64 3 = nI (n + 1)) := by
  have ha := h.1
  obtain ⟨n, hn, hw, el, ed, hd, hs⟩ := h.2.2 u hu
  have hg := lgM_le hk
  unfold f_X3_makeLonger
  rw [nI_clamp (by omega), ar44 u (by omega)]
  refine yGd (inB_nI (by omega) (by omega)) ?_
  obtain ⟨D2, e2, hc⟩ := copy_ok (D := D) (w := 64) (v := 122 + 14 * u) hw.2.1 (by omega) (by omega)
  rw [e2, bV_d, add_ok hc.1 (by omega), bV_d]
  have hW2 := adD_isW (s := y) (nm := nI k) hc.1 (show n < 20 by omega)
  have s1 : ∀ q, q < n → adD D2 64 n y (nI k) (64 + 1) q = D (122 + 14 * u + 1) q ∧ adD D2 64 n y (nI k) (64 + 2) q = D (122 + 14 * u + 2) q := fun q hq => by
    rw [adD_s, adD_n, if_neg (by omega), if_neg (by omega)]
    exact hc.2.1 q hq
  have e1 : adD D2 64 n y (nI k) (64 + 1) n = y := by rw [adD_s, if_pos rfl]
  have e3 : adD D2 64 n y (nI k) (64 + 2) n = nI k := by rw [adD_n, if_pos rfl]
  refine yRet ⟨fun j q hj => ?_, ⟨n + 1, by omega, hW2.2.1, ?_, fun q hq => ?_⟩, n, hW2, by rw [el]; simp [lts_len], hW2.2.1⟩
  · rw [adD_ne (by omega)]; exact hc.2.2 j q (by omega)
  · rw [el]; exact (lts_app s1 e1 e3).symm
  · by_cases e : q = n
    · rw [e, e1, e3]; exact ⟨hy, k, hg.2.2, rfl⟩
    · rw [(s1 q (by omega)).1, (s1 q (by omega)).2]
      obtain ⟨z1, j, hj, e⟩ := hs q (by omega)
      exact ⟨z1, j, by omega, e⟩
theorem lal_ok (h : LCs D T acc ts b ss a) {u y k : Nat} (hu : u < a) (hy : y < 2) (hk : k ≤ (ss u).2) : Y (f_X3_lookAtLonger (nI u) (nI y) (nI k) D) (fun D' => Fr SLk D D' ∧ PR D' 46 T acc ts b (cl T ss u y k)) := by
  unfold f_X3_lookAtLonger
  refine yBV (ml_ok h.2.2 hu (isSy_n hy) hk) (fun D1 h1 => ?_)
  obtain ⟨hF1, hW1, -⟩ := h1
  have h1 := h.fr (D' := D1) (fun j k q => hF1 j k (by omega))
  have hd := (h.2.2.sy hu).1
  have hg := lgM_le hk
  have lo := look_ok (r0 := 46) (r2 := 64) h1.1 h1.2.1 (by omega) (by omega) (by omega) hW1 (by omega)
  rw [lg_run] at lo
  refine yBV lo (fun D2 h2 => yRet ⟨?_, h2.2⟩)
  exact (hF1.mono (fun j k q => by unfold SLk; omega)).tr (h2.1.mono (fun j k q => by unfold SP at q; unfold SLk; omega))
/-- the first short one to which what is looked at is alike -/
theorem fa_ok (h : LCs D T acc ts b ss a) (hP : PS D T acc ts b ss a) {c : Cf} (hL : PR D 46 T acc ts b c) (hl : (kpN T acc ts b c).length ≤ 2) : f_X3_firstAlike D = some (oI (lkF T acc ts b ss c (kpN T acc ts b c) a), D) := by
  have ha := h.2.2.1
  have loop : ∀ (j i m : Nat), i + j = a → lkF T acc ts b ss c (kpN T acc ts b c) i = none → f_X3_firstAlike_2 (j + 1 + m) (nI i) D = some (oI (lkF T acc ts b ss c (kpN T acc ts b c) a), D) := by
    intro j
    induction j with
    | zero =>
      intro i m hi hn
      have hi : i = a := by omega
      rw [show 0 + 1 + m = m + 1 by omega]
      show f_X3_firstAlike_2_b _ _ _ = _
      unfold f_X3_firstAlike_2_b
      rw [hi] at hn ⊢
      rw [h.2.2.2.1, if_pos (nI_le (Nat.le_refl _) (by omega)), hn]
      rfl
    | succ j ih =>
      intro i m hi hn
      rw [show j + 1 + 1 + m = (j + 1 + m) + 1 by omega]
      show f_X3_firstAlike_2_b _ _ _ = _
      unfold f_X3_firstAlike_2_b
      have hd := (h.2.2.sy (show i < a by omega)).1
      have hcu := (h.2.2.cu (T := T) h.1.wfT (show i < a by omega)).2
      have hlu : (kpN T acc ts b (cu T ss i)).length ≤ 2 := (hss_in _ (by omega) _ (kpN_in (T := T) (acc := acc) (ts := ts) (b := b) (show (ss i).2 < 5 by omega) hcu)).1
      rw [h.2.2.2.1, if_neg (nI_nle2 (by omega) (by omega)), gd_t (inB_nI (by omega) (by omega)), nI_clamp (by omega), ar45 i (by omega), way_ok h.2.1.1 hL (hP i (by omega)) hl hlu, bI_d, lt_d, nI_1]
      have step : lkF T acc ts b ss c (kpN T acc ts b c) (i + 1) = if ¬ wyL T acc ts b c (kpN T acc ts b c) (cu T ss i) (kpN T acc ts b (cu T ss i)) = -1 then some i else none := by
        unfold lkF at hn ⊢
        rw [fst1_succ, hn]
        simp
      by_cases e : wyL T acc ts b c (kpN T acc ts b c) (cu T ss i) (kpN T acc ts b (cu T ss i)) = -1
      · rw [if_pos e]
        exact ih (i + 1) m (by omega) (by rw [step, if_neg (fun q => q e)])
      · rw [if_neg e]
        rw [if_pos e] at step
        have := fst1_mono (k := a - (i + 1)) step
        rw [show i + 1 + (a - (i + 1)) = a by omega] at this
        have hs : lkF T acc ts b ss c (kpN T acc ts b c) a = some i := this
        rw [hs]
        rfl
  unfold f_X3_firstAlike
  obtain ⟨q, hq⟩ := FUs a (by omega)
  have := loop a 0 q (by omega) rfl
  rw [nI_0] at this
  rw [hq]
  exact this
/-- a held name that the short one should have remembered -/
def fgE (T : Tb) (acc : Int32) (ts : Tst) (b : Nat) (ss : Tst) (u : Nat) (c : Cf) (n : Nat) : Option Nat := fst1 (fun e => (shE1 T acc ts c b e).isSome && decide ((hsN c).getD e 0 < (ss u).2) && (plc1 (kpN T acc ts b (cu T ss u)) ((hsN c).getD e 0) (kpN T acc ts b (cu T ss u)).length).isNone) n
theorem fm_ok (h : LCs D T acc ts b ss a) (hP : PS D T acc ts b ss a) {c : Cf} {M u : Nat} (hL : PR D 46 T acc ts b c) (hM : M < 5) (hc : okC c M) (hu : u < a) : f_X3_findMissed (nI u) D = some (oI (fgE T acc ts b ss u c (hsN c).length), D) := by
  have ha := h.2.2.1
  have hh := hsN_in hM hc
  obtain ⟨hl2, hlt⟩ := hss_in M hM _ hh
  obtain ⟨n, hn, hw, -, ed, hd, -⟩ := h.2.2.2.2 u hu
  have hd4 : D (122 + 14 * u) 4 = nI (ss u).2 := by rw [ed]; exact hw.2.2.1
  have hcu := (h.2.2.cu (T := T) h.1.wfT hu).2
  have hku := kpN_in (T := T) (acc := acc) (ts := ts) (b := b) (show (ss u).2 < 5 by omega) hcu
  have hnu := hss_nm (show (ss u).2 < 5 by omega) hku
  have loop : ∀ (j i m : Nat), i + j = (hsN c).length → fgE T acc ts b ss u c i = none → f_X3_findMissed_2 (j + 1 + m) (nI u) (nI i) D = some (oI (fgE T acc ts b ss u c (hsN c).length), D) := by
    intro j
    induction j with
    | zero =>
      intro i m hi hnn
      have hi : i = (hsN c).length := by omega
      rw [show 0 + 1 + m = m + 1 by omega]
      show f_X3_findMissed_2_b _ _ _ _ = _
      unfold f_X3_findMissed_2_b
      rw [hi] at hnn ⊢
      rw [hL.h.2.1, if_pos (nI_le (Nat.le_refl _) (by omega)), hnn]
      rfl
    | succ j ih =>
      intro i m hi hnn
      rw [show j + 1 + 1 + m = (j + 1 + m) + 1 by omega]
      show f_X3_findMissed_2_b _ _ _ _ = _
      unfold f_X3_findMissed_2_b f_X3_findMissed_65
      have hlti := (hlt i (by omega)).1
      have e49 : D 49 i = nI ((hsN c).getD i 0) := hL.h.2.2 i (by omega)
      have hsh := hL.s i (by omega)
      rw [hL.h.2.1, if_neg (nI_nle2 (by omega) (by omega)), gd_t (inB_nI (by omega) (by omega)), nI_clamp (by omega), lt_d, gd_t (inB_nI (by omega) (by omega)), nI_clamp (by omega), lt_d, nI_1, e49, gd_t (inB_nI (by omega) (by omega)), ar44 u (by omega), hd4, ar45 u (by omega), gd_t (inB_nI (by omega) (by omega)), placeOf_ok (hP u hu).k hnu.1 (by omega) (fun q hq => hnu.2.1 (q + 1) (by omega) (by omega)), bI_d, lt_d]
      have stp : fgE T acc ts b ss u c (i + 1) = if ((shE1 T acc ts c b i).isSome && decide ((hsN c).getD i 0 < (ss u).2) && (plc1 (kpN T acc ts b (cu T ss u)) ((hsN c).getD i 0) (kpN T acc ts b (cu T ss u)).length).isNone) = true then some i else none := by
        unfold fgE at hnn ⊢
        rw [fst1_succ, hnn]
      have nxt : fgE T acc ts b ss u c (i + 1) = none → f_X3_findMissed_2 (j + 1 + m) (nI u) (nI (i + 1)) D = some (oI (fgE T acc ts b ss u c (hsN c).length), D) := fun q => ih (i + 1) m (by omega) q
      cases hs : shE1 T acc ts c b i with
      | none =>
        rw [hs] at hsh stp
        rw [if_pos (show D 50 i = -1 from hsh)]
        exact nxt (by rw [stp]; rfl)
      | some x =>
        rw [hs] at hsh stp
        obtain ⟨x1, x2, -⟩ := hsh
        rw [if_neg (show ¬ D 50 i = -1 by rw [show D 50 i = nI x.1 from x2]; exact nI_n1 (by omega))]
        by_cases c1 : (hsN c).getD i 0 < (ss u).2
        · rw [if_neg (nI_nle2 c1 (by omega))]
          unfold plI
          cases hp : plc1 (kpN T acc ts b (cu T ss u)) ((hsN c).getD i 0) (kpN T acc ts b (cu T ss u)).length with
          | none =>
            rw [hp] at stp
            rw [if_pos (show oI none = -1 from rfl)]
            have s1 : fgE T acc ts b ss u c (i + 1) = some i := by rw [stp, decide_eq_true c1]; rfl
            have := fst1_mono (k := (hsN c).length - (i + 1)) s1
            rw [show i + 1 + ((hsN c).length - (i + 1)) = (hsN c).length by omega] at this
            have hs : fgE T acc ts b ss u c (hsN c).length = some i := this
            rw [hs]
            rfl
          | some q =>
            rw [hp] at stp
            have hq : q < 2 ^ 31 := by
              have : ∀ n, ∀ q, plc1 (kpN T acc ts b (cu T ss u)) ((hsN c).getD i 0) n = some q → q < n := by
                intro n
                induction n with
                | zero => intro q h; cases h
                | succ n ihn =>
                  intro q h
                  unfold plc1 at h
                  cases h2 : plc1 (kpN T acc ts b (cu T ss u)) ((hsN c).getD i 0) n with
                  | some z => rw [h2] at h; cases h; have := ihn _ h2; omega
                  | none =>
                    rw [h2] at h
                    dsimp only at h
                    split at h
                    · cases h; omega
                    · cases h
              have := this _ _ hp
              have := hnu.1
              omega
            rw [if_neg (show ¬ oI (some q) = -1 from nI_n1 hq)]
            exact nxt (by rw [stp]; simp)
        · rw [if_pos (nI_le (by omega) (by omega))]
          exact nxt (by rw [stp, decide_eq_false c1]; simp)
  unfold f_X3_findMissed
  obtain ⟨q, hq⟩ := FUs (hsN c).length (by omega)
  have := loop (hsN c).length 0 q (by omega) rfl
  rw [nI_0] at this
  rw [hq]
  exact this
end
