theorem ds_surj {f : Nat → Int32} : ∀ {n m : Nat}, m < dsf f n → ∃ k, k < n ∧ (∀ j, j < k → f j ≠ f k) ∧ dsf f k = m
  | 0, m, h => absurd h (Nat.not_lt_zero m)
  | n + 1, m, h => by
    by_cases c : m < dsf f n
    · obtain ⟨k, h1, h2, h3⟩ := ds_surj c
      exact ⟨k, by omega, h2, h3⟩
    · have h : m < dsf f n + if fi f (f n) n < n then 0 else 1 := h
      by_cases e : fi f (f n) n < n
      · rw [if_pos e] at h; omega
      · rw [if_neg e] at h
        have hs := fi_spec f (f n) n
        refine ⟨n, by omega, fun j hj => hs.2.1 j (by omega), by omega⟩
theorem lsf_app {f : Nat → Int32} {n m : Nat} (hn : n ≤ 20) (hl : ∀ k, k < n → f k = nI (lsf f k)) (he : f n = nI m) (hm : m ≤ dsf f n) : lsf f n = m := by
  have hd := dsf_le f n
  by_cases c : m < dsf f n
  · obtain ⟨k, h1, h2, h3⟩ := ds_surj c
    have ek : f k = f n := by rw [hl k h1, he, lsf_first h2, h3]
    unfold lsf
    rw [fi_uniq (i := k) (by omega) (fun j hj => by rw [← ek]; exact h2 j hj) (fun _ => ek), h3]
  · have em : m = dsf f n := by omega
    rw [lsf_first (fun j hj q => ?_), em]
    have h1 := lsf_lt (f := f) hj
    rw [hl j hj, he] at q
    have := nI_inj (by omega) (by omega) q
    omega
theorem lts_get {s t : Nat → Int32} {n k : Nat} (h : k < n) : (lts s t 0 n)[k]? = some (s k, t k) := by
  unfold lts
  rw [List.getElem?_map, List.getElem?_range' h]
  simp
theorem lts_inj {s t f g : Nat → Int32} {n : Nat} (h : lts s t 0 n = lts f g 0 n) : ∀ k, k < n → s k = f k ∧ t k = g k := by
  intro k hk
  have h1 := lts_get (s := s) (t := t) hk
  rw [h, lts_get hk] at h1
  have := Option.some.inj h1
  exact ⟨(congrArg (fun z : Lt => z.1) this).symm, (congrArg (fun z : Lt => z.2) this).symm⟩
/-- from where a register is filled -/
def flI (ku kc : List Nat) (way : Int32) (r : Nat) : Int32 := if r < kc.length then (if plI ku (kc.getD (if way = 1 then 1 - r else r) 0) = -1 then 2 else plI ku (kc.getD (if way = 1 then 1 - r else r) 0)) else -1
/-- short words are in least form -/
def SLf (D : Dm) (ss : Tst) (a : Nat) : Prop := ∀ u, u < a → ∀ k, k < (ss u).1.length → D (122 + 14 * u + 2) k = nI (lsf (D (122 + 14 * u + 2)) k)
section
variable {D : Dm} {T : Tb} {acc : Int32} {ts ss : Tst} {b a : Nat}
theorem fo_ok (h : LCs D T acc ts b ss a) (hP : PS D T acc ts b ss a) {c : Cf} {M u r : Nat} {way : Int32} (hL : PR D 46 T acc ts b c) (hM : M < 5) (hc : okC c M) (hu : u < a) (hr : r < 2) (hw : way = 0 ∨ (way = 1 ∧ (kpN T acc ts b c).length = 2)) : f_X3_fillOf (nI u) (nI r) way D = some (flI (kpN T acc ts b (cu T ss u)) (kpN T acc ts b c) way r, D) := by
  have ha := h.2.2.1
  have hd := (h.2.2.sy hu).1
  have hcu := (h.2.2.cu (T := T) h.1.wfT hu).2
  have hnu := hss_nm (show (ss u).2 < 5 by omega) (kpN_in (T := T) (acc := acc) (ts := ts) (b := b) (show (ss u).2 < 5 by omega) hcu)
  have hnc := hss_nm hM (kpN_in (T := T) (acc := acc) (ts := ts) (b := b) hM hc)
  have hlc := hnc.1
  have one : ∀ q, q < (kpN T acc ts b c).length → f_X3_fillOf_25 (nI u) (nI q) D = some (if plI (kpN T acc ts b (cu T ss u)) ((kpN T acc ts b c).getD q 0) = -1 then 2 else plI (kpN T acc ts b (cu T ss u)) ((kpN T acc ts b c).getD q 0), D) := by
    intro q hq
    unfold f_X3_fillOf_25
    have e52 : D 52 q = nI ((kpN T acc ts b c).getD q 0) := hL.k.2 q hq
    have lt100 : (kpN T acc ts b c).getD q 0 < 100 := hnc.2.1 (q + 1) (by omega) (by omega)
    rw [gd_t (inB_nI (by omega) (by omega)), gd_t (inB_nI (by omega) (by omega)), nI_clamp (by omega), nI_clamp (by omega), ar45 u (by omega), e52, placeOf_ok (hP u hu).k hnu.1 lt100 (fun z hz => hnu.2.1 (z + 1) (by omega) (by omega)), bI_d]
    split <;> rfl
  unfold f_X3_fillOf flI
  rw [show D 46 6 = nI (kpN T acc ts b c).length from hL.k.1]
  by_cases c1 : r < (kpN T acc ts b c).length
  · rw [if_pos c1, if_pos (nI_lt c1 (by omega))]
    rcases hw with rfl | ⟨rfl, h2⟩
    · rw [show (if (0 : Int32) = 1 then 1 - r else r) = r from if_neg (by decide), if_neg (show ¬ ((0 : Int32) = 1) by decide)]
      exact one r c1
    · rw [show (if (1 : Int32) = 1 then 1 - r else r) = 1 - r from if_pos rfl, if_pos rfl]
      have : r = 0 ∨ r = 1 := by omega
      rcases this with rfl | rfl
      · exact one 1 (by omega)
      · exact one 0 (by omega)
  · rw [if_neg c1, if_neg (nI_nlt (by omega) (by omega))]
/-- a move of the hypothesis is put -/
def pmv (D : Dm) (s : Nat) (v : Nat) (f0 f1 : Int32) : Dm := ud (ud (ud D 57 s (nI v)) 58 s f0) 59 s f1
theorem pmv_57 {s v q : Nat} {f0 f1 : Int32} : pmv D s v f0 f1 57 q = if q = s then nI v else D 57 q := by
  unfold pmv; rw [ud_at, if_neg (by omega), ud_at, if_neg (by omega), ud_at]
  by_cases h : q = s
  · rw [if_pos ⟨rfl, h⟩, if_pos h]
  · rw [if_neg (fun z => h z.2), if_neg h]
theorem pmv_58 {s v q : Nat} {f0 f1 : Int32} : pmv D s v f0 f1 58 q = if q = s then f0 else D 58 q := by
  unfold pmv; rw [ud_at, if_neg (by omega), ud_at]
  by_cases h : q = s
  · rw [if_pos ⟨rfl, h⟩, if_pos h]
  · rw [if_neg (fun z => h z.2), if_neg h, ud_at, if_neg (by omega)]
theorem pmv_59 {s v q : Nat} {f0 f1 : Int32} : pmv D s v f0 f1 59 q = if q = s then f1 else D 59 q := by
  unfold pmv; rw [ud_at]
  by_cases h : q = s
  · rw [if_pos ⟨rfl, h⟩, if_pos h]
  · rw [if_neg (fun z => h z.2), if_neg h, ud_at, if_neg (by omega), ud_at, if_neg (by omega)]
theorem pmv_ne {s v j q : Nat} {f0 f1 : Int32} (h : j < 57 ∨ 59 < j) : pmv D s v f0 f1 j q = D j q := by
  unfold pmv; rw [ud_at, if_neg (by omega), ud_at, if_neg (by omega), ud_at, if_neg (by omega)]
theorem cn_ok (h : LCs D T acc ts b ss a) (hP : PS D T acc ts b ss a) {c : Cf} {M u v s : Nat} (hL : PR D 46 T acc ts b c) (hM : M < 5) (hc : okC c M) (hu : u < a) (hv : v < a) (hs : s < 60) (hw : wyL T acc ts b c (kpN T acc ts b c) (cu T ss v) (kpN T acc ts b (cu T ss v)) ≠ -1) : f_X3_connect (nI s) (nI u) (nI v) D = some (pmv D s v (flI (kpN T acc ts b (cu T ss u)) (kpN T acc ts b c) (wyL T acc ts b c (kpN T acc ts b c) (cu T ss v) (kpN T acc ts b (cu T ss v))) 0) (flI (kpN T acc ts b (cu T ss u)) (kpN T acc ts b c) (wyL T acc ts b c (kpN T acc ts b c) (cu T ss v) (kpN T acc ts b (cu T ss v))) 1)) := by
  have ha := h.2.2.1
  have hd := (h.2.2.sy hv).1
  have hcv := (h.2.2.cu (T := T) h.1.wfT hv).2
  have lv := (hss_in _ (show (ss v).2 < 5 by omega) _ (kpN_in (T := T) (acc := acc) (ts := ts) (b := b) (show (ss v).2 < 5 by omega) hcv)).1
  have lc := (hss_in _ hM _ (kpN_in (T := T) (acc := acc) (ts := ts) (b := b) hM hc)).1
  have hw2 := (wy_3 (T := T) (acc := acc) (ts := ts) (b := b) (c := c) (c' := cu T ss v) (l := kpN T acc ts b c) (l' := kpN T acc ts b (cu T ss v))).resolve_left hw
  unfold f_X3_connect f_X2_put
  have f0 := fo_ok h hP (r := 0) hL hM hc hu (by omega) hw2.2
  have f1 := fo_ok h hP (r := 1) hL hM hc hu (by omega) hw2.2
  rw [nI_0] at f0
  rw [gd_t (inB_nI (by omega) (by omega)), nI_clamp (by omega), ar45 v (by omega), way_ok h.2.1.1 hL (hP v hv) lc lv, bI_d, f0, bI_d, show (1 : Int32) = nI 1 from rfl, f1, bI_d, gd_t (inB_nI hs (by omega)), lt_d, gd_t (inB_nI hs (by omega)), lt_d, gd_t (inB_nI hs (by omega)), lt_d, bV_d, nI_clamp (by omega)]
  rfl
/-- the name by which a long word of u goes -/
def nmi (T : Tb) (acc : Int32) (ts : Tst) (b : Nat) (ss : Tst) (u i : Nat) : Nat := if i < (kpN T acc ts b (cu T ss u)).length then (kpN T acc ts b (cu T ss u)).getD i 0 else (ss u).2
theorem nmi_le (h : SC D ss a) (hT : wfT T) {u i : Nat} (hu : u < a) : nmi T acc ts b ss u i ≤ (ss u).2 := by
  have hd := (h.sy hu).1
  have hl := hss_lt1 _ (show (ss u).2 < 5 by omega) _ (kpN_in (T := T) (acc := acc) (ts := ts) (b := b) (show (ss u).2 < 5 by omega) (h.cu hT hu).2)
  unfold nmi
  split
  · rename_i c
    have := hl (i + 1) (by omega) (by omega)
    simp only [Nat.add_sub_cancel] at this
    omega
  · omega
/-- a long word, its configuration -/
def clo (T : Tb) (acc : Int32) (ts : Tst) (b : Nat) (ss : Tst) (u y i : Nat) : Cf := cl T ss u y (nmi T acc ts b ss u i)
def fgO (T : Tb) (acc : Int32) (ts : Tst) (b : Nat) (ss : Tst) (u y i : Nat) : Option Nat := fgE T acc ts b ss u (clo T acc ts b ss u y i) (hsN (clo T acc ts b ss u y i)).length
def lkO (T : Tb) (acc : Int32) (ts : Tst) (b : Nat) (ss : Tst) (a u y i : Nat) : Option Nat := lkF T acc ts b ss (clo T acc ts b ss u y i) (kpN T acc ts b (clo T acc ts b ss u y i)) a
def hsn (T : Tb) (acc : Int32) (ts : Tst) (b : Nat) (ss : Tst) (u y i : Nat) : Nat := (u * 2 + y) * 3 + if i < (kpN T acc ts b (cu T ss u)).length then i else 2
def flO (T : Tb) (acc : Int32) (ts : Tst) (b : Nat) (ss : Tst) (u y i v r : Nat) : Int32 := flI (kpN T acc ts b (cu T ss u)) (kpN T acc ts b (clo T acc ts b ss u y i)) (wyL T acc ts b (clo T acc ts b ss u y i) (kpN T acc ts b (clo T acc ts b ss u y i)) (cu T ss v) (kpN T acc ts b (cu T ss v))) r
def lgw (T : Tb) (acc : Int32) (ts : Tst) (b : Nat) (ss : Tst) (u y i : Nat) : List Lt := (ss u).1 ++ [(nI y, nI (nmi T acc ts b ss u i))]
abbrev SLW (j k : Nat) : Prop := SLk j k ∨ (57 ≤ j ∧ j ≤ 59) ∨ (68 ≤ j ∧ j ≤ 71) ∨ (j = 43 ∧ k = 13)
/-- what a look at a long word leaves -/
def LLW (D D' : Dm) (T : Tb) (acc : Int32) (ts : Tst) (b : Nat) (ss : Tst) (a u y i : Nat) : Prop :=
  (∃ e x, fgO T acc ts b ss u y i = some e ∧ shE1 T acc ts (clo T acc ts b ss u y i) b e = some x ∧ D' 43 13 = 1 ∧ PWd D' (prL ts (clo T acc ts b ss u y i) y (nmi T acc ts b ss u i) x)) ∨
  (fgO T acc ts b ss u y i = none ∧ D' 43 13 = D 43 13 ∧ (∀ j k, 68 ≤ j → j ≤ 71 → D' j k = D j k) ∧ ∃ v, v < a ∧ lkO T acc ts b ss a u y i = some v ∧ ∀ s, D' 57 s = (if s = hsn T acc ts b ss u y i then nI v else D 57 s) ∧ D' 58 s = (if s = hsn T acc ts b ss u y i then flO T acc ts b ss u y i v 0 else D 58 s) ∧ D' 59 s = (if s = hsn T acc ts b ss u y i then flO T acc ts b ss u y i v 1 else D 59 s)) ∨
  (fgO T acc ts b ss u y i = none ∧ lkO T acc ts b ss a u y i = none ∧ (∀ j k, 57 ≤ j → j ≤ 59 → D' j k = D j k) ∧ ((D 43 13 = 0 ∧ D' 43 13 = 2 ∧ PWd D' (lgw T acc ts b ss u y i)) ∨ (D 43 13 ≠ 0 ∧ D' 43 13 = D 43 13 ∧ (∀ j k, 68 ≤ j → j ≤ 71 → D' j k = D j k))))
theorem llw_ok (h : LCs D T acc ts b ss a) (hP : PS D T acc ts b ss a) (h6 : ∀ t, t < b → (ts t).1.length ≤ 6) (hSL : SLf D ss a) {u y i : Nat} (hu : u < a) (hy : y < 2) (hi : i ≤ (kpN T acc ts b (cu T ss u)).length) : Y (f_X3_lookAtLongWord (nI u) (nI y) (nI i) D) (fun D' => Fr SLW D D' ∧ LLW D D' T acc ts b ss a u y i) := by
  have ha := h.2.2.1
  have hd := (h.2.2.sy hu).1
  have hcu := (h.2.2.cu (T := T) h.1.wfT hu).2
  have hku := (hss_in _ (show (ss u).2 < 5 by omega) _ (kpN_in (T := T) (acc := acc) (ts := ts) (b := b) (show (ss u).2 < 5 by omega) hcu)).1
  have hnm := nmi_le (acc := acc) (ts := ts) (b := b) (T := T) h.2.2 h.1.wfT (i := i) hu
  have hg := lgM_le hnm
  obtain ⟨n, hn, hw, el, ed, -, -⟩ := h.2.2.2.2 u hu
  have hd4 : D (122 + 14 * u) 4 = nI (ss u).2 := by rw [ed]; exact hw.2.2.1
  have main : ∀ nw : Int32, nw = (if i < (kpN T acc ts b (cu T ss u)).length then 0 else 1) → Y (f_X3_lookAtLongWord_48 (nI u) (nI y) (nI i) nw (nI (nmi T acc ts b ss u i)) D) (fun D' => Fr SLW D D' ∧ LLW D D' T acc ts b ss a u y i) := by
    intro nw hnw
    unfold f_X3_lookAtLongWord_48
    refine yBV (ml_ok h.2.2 hu (isSy_n hy) hnm) (fun D1 h1 => ?_)
    obtain ⟨hF1, hW1, n', hI1, hn1, h31⟩ := h1
    have hL1 := h.fr (D' := D1) (fun j k q => hF1 j k (by omega))
    have lo := look_ok (r0 := 46) (r2 := 64) hL1.1 hL1.2.1 (by omega) (by omega) (by omega) hW1 (by omega)
    rw [lg_run] at lo
    refine yBV lo (fun D2 h2 => ?_)
    obtain ⟨hF2, hp2⟩ := h2
    have hF2' : Fr SLk D D2 := (hF1.mono (fun j k q => by unfold SLk; omega)).tr (hF2.mono (fun j k q => by unfold SP at q; unfold SLk; omega))
    have hL2 := h.fr (D' := D2) (fun j k q => hF2' j k (by unfold SLk; omega))
    have hP2 : PS D2 T acc ts b ss a := hP.fr ha.2 (fun j k q1 q2 q3 => hF2' j k (by unfold SLk; omega))
    have hcl := (h.2.2.cl (T := T) h.1.wfT hu hy hnm).2
    have hcs := (hss_in _ (show lgM (ss u).2 (nmi T acc ts b ss u i) < 5 by omega) _ (hsN_in (show lgM (ss u).2 (nmi T acc ts b ss u i) < 5 by omega) hcl)).1
    have hck := (hss_in _ (show lgM (ss u).2 (nmi T acc ts b ss u i) < 5 by omega) _ (kpN_in (T := T) (acc := acc) (ts := ts) (b := b) (show lgM (ss u).2 (nmi T acc ts b ss u i) < 5 by omega) hcl)).1
    rw [fm_ok hL2 hP2 hp2 (show lgM (ss u).2 (nmi T acc ts b ss u i) < 5 by omega) hcl hu, bI_d]
    have k13 : D2 43 13 = D 43 13 := hF2' _ _ (by unfold SLk; omega)
    cases hfg : fgO T acc ts b ss u y i with
    | some e =>
      have hfg' : fgE T acc ts b ss u (cl T ss u y (nmi T acc ts b ss u i)) (hsN (cl T ss u y (nmi T acc ts b ss u i))).length = some e := hfg
      rw [hfg']
      have he := fst1_lt hfg'
      have hse := fst1_some hfg'
      rw [Bool.and_eq_true, Bool.and_eq_true] at hse
      obtain ⟨x, hx⟩ := Option.isSome_iff_exists.mp hse.1.1
      refine yNeg (nI_n1 (by omega)) (yLt (fun D3 hD3 => ?_))
      have hF3 : Fr (fun j k => j = 43 ∧ k = 13) D2 D3 := by rw [hD3]; exact Fr.refl.ud ⟨rfl, rfl⟩
      have hp3 : PR D3 46 T acc ts b (cl T ss u y (nmi T acc ts b ss u i)) := hp2.fr (fun j k q1 q2 => hF3 j k (by omega))
      refine yBV (pls_ok (e := e) (y := y) (k := nmi T acc ts b ss u i) (hL2.2.1.fr (fun j k q => hF3 j k (by omega))) h6 hp3 hcs he hx) (fun D4 h4 => yRet ⟨?_, Or.inl ⟨e, x, hfg, hx, ?_, h4.2⟩⟩)
      · exact (hF2'.mono (fun j k q => by unfold SLW; omega)).tr ((hF3.mono (fun j k q => by unfold SLW; omega)).tr (h4.1.mono (fun j k q => by unfold SLW SLk; omega)))
      · rw [h4.1 _ _ (by omega), hD3, ud_at, if_pos ⟨rfl, rfl⟩]
    | none =>
      have hfg' : fgE T acc ts b ss u (cl T ss u y (nmi T acc ts b ss u i)) (hsN (cl T ss u y (nmi T acc ts b ss u i))).length = none := hfg
      rw [hfg']
      refine yPos rfl ?_
      rw [fa_ok hL2 hP2 hp2 hck, bI_d]
      cases hlk : lkO T acc ts b ss a u y i with
      | none =>
        have hlk' : lkF T acc ts b ss (cl T ss u y (nmi T acc ts b ss u i)) (kpN T acc ts b (cl T ss u y (nmi T acc ts b ss u i))) a = none := hlk
        rw [hlk']
        refine yPos rfl ?_
        rw [k13]
        refine yIte (fun e0 => yLt (fun D3 hD3 => ?_)) (fun e0 => yRet ⟨hF2'.mono (fun j k q => by unfold SLW; omega), Or.inr (Or.inr ⟨hfg, hlk, fun j k q1 q2 => hF2' j k (by unfold SLk; omega), Or.inr ⟨e0, k13, fun j k q1 q2 => hF2' j k (by unfold SLk; omega)⟩⟩)⟩)
        have hF3 : Fr (fun j k => j = 43 ∧ k = 13) D2 D3 := by rw [hD3]; exact Fr.refl.ud ⟨rfl, rfl⟩
        have f64 : ∀ j k, 64 ≤ j → j ≤ 67 → D3 j k = D1 j k := fun j k q1 q2 => by rw [hF3 j k (by omega), hF2 j k (by unfold SP; omega)]
        have len1 : n' = n := by
          have : ((ss u).1 ++ [(nI y, nI (nmi T acc ts b ss u i))]).length = n + 1 := by rw [el]; simp [lts_len]
          omega
        subst len1
        obtain ⟨D4, e4, hc4⟩ := copyLeast_ok (D := D3) (w := 68) (v := 64) (n := n' + 1) (by rw [f64 _ _ (by omega) (by omega)]; exact h31) (by omega) (by omega)
        rw [e4, bV_d]
        have ll : (lgw T acc ts b ss u y i).length = n' + 1 := by unfold lgw; rw [el]; simp [lts_len]
        -- the longer word is in least form
        obtain ⟨z, hz, z3, zl, -⟩ := hW1
        have ez : z = n' + 1 := nI_inj (by omega) (by omega) (by rw [← z3, h31])
        rw [ez] at zl
        have sl : lts (D1 65) (D1 66) 0 (n' + 1) = lts (D (122 + 14 * u + 1)) (D (122 + 14 * u + 2)) 0 n' ++ [(nI y, nI (nmi T acc ts b ss u i))] := by rw [← el]; exact zl.symm
        have names : (∀ k, k < n' → D1 66 k = D (122 + 14 * u + 2) k) ∧ D1 66 n' = nI (nmi T acc ts b ss u i) := by
          rw [lts_snoc] at sl
          obtain ⟨s1, s2⟩ := List.append_inj' sl rfl
          refine ⟨fun k hk => (lts_inj s1 k hk).2, ?_⟩
          have := List.head_eq_of_cons_eq s2
          exact congrArg (fun z : Lt => z.2) this
        have lsl : ∀ k, k < n' → lsf (D1 66) k = lsf (D (122 + 14 * u + 2)) k := fun k hk => lsf_congr (fun j hj => names.1 j (by omega))
        have l66 : ∀ k, k < n' + 1 → D1 66 k = nI (lsf (D1 66) k) := by
          have lo : ∀ k, k < n' → D1 66 k = nI (lsf (D1 66) k) := fun k hk => by
            rw [lsl k hk, names.1 k hk]
            exact hSL u hu k (by rw [el, lts_len]; exact hk)
          intro k hk
          by_cases ek : k = n'
          · rw [ek, names.2, lsf_app (by omega) lo names.2 (by rw [dsf_congr names.1, ← ed]; exact hnm)]
          · exact lo k (by omega)
        refine yRet ⟨?_, Or.inr (Or.inr ⟨hfg, hlk, fun j k q1 q2 => by rw [hc4.2.2 j k (by omega), hF3 j k (by omega), hF2' j k (by unfold SLk; omega)], Or.inl ⟨e0, ?_, ⟨by rw [ll]; exact hc4.1, ?_⟩⟩⟩)⟩
        · intro j k q
          unfold SLW at q
          rw [hc4.2.2 j k (by omega), hF3 j k (by omega), hF2' j k (fun z => q (Or.inl z))]
        · rw [hc4.2.2 _ _ (by omega), hD3, ud_at, if_pos ⟨rfl, rfl⟩]
        · rw [ll]
          show (ss u).1 ++ [(nI y, nI (nmi T acc ts b ss u i))] = _
          refine zl.trans (lts_congr (fun k _ hk => ?_))
          obtain ⟨q1, q2⟩ := hc4.2.1 k (by omega)
          rw [q1, q2, f64 _ _ (by omega) (by omega), f64 _ _ (by omega) (by omega), hI1.2.2.2 k (by omega)]
          exact ⟨rfl, l66 k (by omega)⟩
      | some v =>
        have hlk' : lkF T acc ts b ss (cl T ss u y (nmi T acc ts b ss u i)) (kpN T acc ts b (cl T ss u y (nmi T acc ts b ss u i))) a = some v := hlk
        rw [hlk']
        have hv := fst1_lt hlk'
        have hvw := fst1_some hlk'
        rw [decide_eq_true_eq] at hvw
        refine yNeg (nI_n1 (by omega)) ?_
        have fin : ∀ g : Nat, g < 3 → (u * 2 + y) * 3 + g = hsn T acc ts b ss u y i → Y (f_X3_lookAtLongWord_126 (nI u) (nI v) (nI g) (nI y) (nI u) D2) (fun D' => Fr SLW D D' ∧ LLW D D' T acc ts b ss a u y i) := by
          intro g hg2 es
          unfold f_X3_lookAtLongWord_126 f_X4_slot
          rw [bI_d, slot_n, cn_ok hL2 hP2 hp2 (show lgM (ss u).2 (nmi T acc ts b ss u i) < 5 by omega) hcl hu hv (by omega) hvw, bV_d]
          refine yRet ⟨?_, Or.inr (Or.inl ⟨hfg, ?_, fun j k q1 q2 => ?_, v, hv, hlk, fun s => ⟨?_, ?_, ?_⟩⟩)⟩
          · unfold pmv
            exact (((hF2'.mono (fun j k q => by unfold SLW; omega)).ud (by unfold SLW; omega)).ud (by unfold SLW; omega)).ud (by unfold SLW; omega)
          · rw [pmv_ne (by omega)]; exact k13
          · rw [pmv_ne (by omega), hF2' j k (by unfold SLk; omega)]
          · rw [pmv_57, es, hF2' 57 s (by unfold SLk; omega)]
          · rw [pmv_58, es, hF2' 58 s (by unfold SLk; omega)]; rfl
          · rw [pmv_59, es, hF2' 59 s (by unfold SLk; omega)]; rfl
        by_cases c : i < (kpN T acc ts b (cu T ss u)).length
        · rw [if_pos c] at hnw
          exact yPos hnw (fin i (by omega) (by unfold hsn; rw [if_pos c]))
        · rw [if_neg c] at hnw
          exact yNeg (by rw [hnw]; decide) (fin 2 (by omega) (by unfold hsn; rw [if_neg c]))
  unfold f_X3_lookAtLongWord f_X3_lookAtLongWord_18
  rw [nI_clamp (show u < 2 ^ 31 by omega), nI_clamp (show i < 2 ^ 31 by omega), ar45 u (by omega), ar44 u (by omega), (hP u hu).k.1, hd4]
  refine yGd (inB_nI (by omega) (by omega)) ?_
  by_cases c : i < (kpN T acc ts b (cu T ss u)).length
  · refine yPos (nI_lt c (by omega)) (yPos rfl (yGd (inB_nI (by omega) (by omega)) (yGd (inB_nI (by omega) (by omega)) ?_)))
    rw [(hP u hu).k.2 i c]
    have := main 0 (by rw [if_pos c])
    rw [show nmi T acc ts b ss u i = (kpN T acc ts b (cu T ss u)).getD i 0 by unfold nmi; rw [if_pos c]] at this
    exact this
  · refine yNeg (nI_nlt (by omega) (by omega)) (yNeg (by decide) (yGd (inB_nI (by omega) (by omega)) ?_))
    have := main 1 (by rw [if_neg c])
    rw [show nmi T acc ts b ss u i = (ss u).2 by unfold nmi; rw [if_neg c]] at this
    exact this
end
