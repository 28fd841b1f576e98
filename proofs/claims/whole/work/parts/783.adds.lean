/-! ===== the shown test and the split as new tests, reference ===== -/
theorem LKm.nil {D : Dm} (h : D 281 36 = 0) : LKm D [] 0 := ⟨0, by omega, by rw [h, nI_0], rfl, fun k hk => absurd hk (Nat.not_lt_zero k), rfl⟩
theorem okA_sim {ts : Tst} {b : Nat} {R : Int32 → Int32 → Prop} (hR : Bij R) {v w : List Lt} (h : SimW R v w) : okA ts b v = okA ts b w ∧ addL ts b v = addL ts b w := by
  obtain ⟨h1, h2⟩ := lfm_sim hR h
  unfold okA addL
  rw [h1, h2, h.len]
  exact ⟨rfl, rfl⟩
def Rq (x x' : Int32) : Prop := (x = -1 ∧ x' = -1) ∨ (∃ k, k < 100 ∧ x = nI k ∧ x' = nI k) ∨ (∃ i, i < 100 ∧ x = nI (1000 + i) ∧ x' = nI (100 + i))
theorem Rq_bij : Bij Rq := by
  refine ⟨Or.inl ⟨rfl, rfl⟩, fun x x' y y' h1 h2 => ?_⟩
  have m1 : ∀ n, n < 2 ^ 31 → (-1 : Int32) ≠ nI n := fun n hn h => nI_n1 hn h.symm
  rcases h1 with ⟨rfl, rfl⟩ | ⟨k, hk, rfl, rfl⟩ | ⟨i, hi, rfl, rfl⟩ <;> rcases h2 with ⟨rfl, rfl⟩ | ⟨k', hk', rfl, rfl⟩ | ⟨i', hi', rfl, rfl⟩
  · exact Iff.rfl
  · exact ⟨fun h => absurd h (m1 _ (by omega)), fun h => absurd h (m1 _ (by omega))⟩
  · exact ⟨fun h => absurd h (m1 _ (by omega)), fun h => absurd h (m1 _ (by omega))⟩
  · exact ⟨fun h => absurd h.symm (m1 _ (by omega)), fun h => absurd h.symm (m1 _ (by omega))⟩
  · exact Iff.rfl
  · exact ⟨fun h => by have := nI_inj (by omega) (by omega) h; omega, fun h => by have := nI_inj (by omega) (by omega) h; omega⟩
  · exact ⟨fun h => absurd h.symm (m1 _ (by omega)), fun h => absurd h.symm (m1 _ (by omega))⟩
  · exact ⟨fun h => by have := nI_inj (by omega) (by omega) h; omega, fun h => by have := nI_inj (by omega) (by omega) h; omega⟩
  · exact ⟨fun h => by have := nI_inj (by omega) (by omega) h; rw [show i = i' by omega], fun h => by have := nI_inj (by omega) (by omega) h; rw [show i = i' by omega]⟩
theorem ins_lts {f g : Nat → Int32} {n : Nat} {ν : Int32 → Int32} : ins (lts f g 0 n) ν = lts f (fun k => ν (g k)) 0 n := by
  unfold ins lts
  rw [List.map_map]
  rfl
def shQ (D : Dm) (ts : Tst) (b : Nat) (S : Nat → Nat → Prop) (w : List Lt) (r : Int32 × Dm) : Prop := r.1 = b01 (okA ts b w) ∧ (okA ts b w = false → Fr S D r.2) ∧ (okA ts b w = true → Fr (fun j k => S j k ∨ SAT b j k) D r.2 ∧ TR r.2 (addL ts b w) (b + 1))
theorem adds_end {D D1 : Dm} {ts : Tst} {b M : Nat} {w : List Lt} {S : Nat → Nat → Prop} (hS : ∀ k, S 300 k) (hF : Fr S D D1) (hT : TR D1 ts b) (hK : LKm D1 w M) : Y (bI (f_X12_addsTest D1) fun y D3 => gd (zbB y) (some (y, D3))) (shQ D ts b S w) := by
  refine yBI (addsTest_ok hT hK) (fun r D2 h2 => ?_)
  dsimp only at h2
  obtain ⟨h1, h2, h3⟩ := h2
  refine yGd ?_ (yRet ⟨h1, fun h => hF.tr ((h2 h).mono (fun j k q => by rw [q]; exact hS k)), fun h => ⟨?_, (h3 h).2⟩⟩)
  · rw [h1]
    cases okA ts b w <;> decide
  · exact Fr.tr (hF.mono (fun j k q => Or.inl q)) ((h3 h).1.mono (fun j k q => Or.inr q))
section
variable {D : Dm} {T : Tb} {acc : Int32} {ts ss : Tst} {b a : Nat}
theorem as43 {D0 D5 : Dm} {t n : Nat} {l0 : List Lt} (hT : TR D5 ts b) (ht : t < b) (h44 : D5 281 44 = nI t) (h292 : D5 292 t = nI n) (hn : n ≤ 6) (hF : Fr SX D0 D5) (hl0 : l0.length ≤ 2)
    (hs : ∀ k, k < n → isSy (D5 293 (6 * t + k)) ∧ ∃ j, j < 3 ∧ D5 294 (6 * t + k) = nI j ∧ ∃ q, q < 1000 ∧ D5 303 j = nI q) :
    ∀ (j i z : Nat) (E : Dm) (M : Nat), i + j = n → Fr STL D5 E → LKm E (l0 ++ lts (fun k => D5 293 (6 * t + k)) (fun k => D5 303 (D5 294 (6 * t + k)).toNatClampNeg) 0 i) M → Y (f_X12_addsShown_43 (j + 1 + z) (nI i) E) (shQ D0 ts b SX (l0 ++ lts (fun k => D5 293 (6 * t + k)) (fun k => D5 303 (D5 294 (6 * t + k)).toNatClampNeg) 0 n)) := by
  have hb := hT.1
  intro j
  induction j with
  | zero =>
    intro i z E M hi hE hK
    have hi : i = n := by omega
    subst hi
    rw [show 0 + 1 + z = z + 1 by omega]
    show Y (f_X12_addsShown_43_b _ _ _) _
    unfold f_X12_addsShown_43_b
    rw [hE 281 44 (by unfold STL; omega), h44]
    refine yGd (inB_nI (by omega) (by omega)) ?_
    rw [nI_clamp (by omega), hE 292 t (by unfold STL; omega), h292]
    refine yPos (nI_le (Nat.le_refl _) (by omega)) ?_
    exact adds_end (fun k => by unfold SX; omega) (hF.tr (hE.mono (fun j k q => by unfold STL at q; unfold SX; omega))) (hT.fr (hE _ _ (by unfold STL; omega)) (fun j k q1 q2 => hE _ _ (by unfold STL; omega))) hK
  | succ j ih =>
    intro i z E M hi hE hK
    rw [show j + 1 + 1 + z = (j + 1 + z) + 1 by omega]
    show Y (f_X12_addsShown_43_b _ _ _) _
    unfold f_X12_addsShown_43_b
    have e6 : (6 : Int32) * nI t + nI i = nI (6 * t + i) := by rw [show (6 : Int32) = nI 6 from rfl, nI_mul, nI_add]
    obtain ⟨s1, p, hp, s2, q, hq, s3⟩ := hs i (by omega)
    rw [hE 281 44 (by unfold STL; omega), h44]
    refine yGd (inB_nI (by omega) (by omega)) ?_
    rw [nI_clamp (show t < 2 ^ 31 by omega), hE 292 t (by unfold STL; omega), h292]
    refine yNeg (nI_nle2 (by omega) (by omega)) ?_
    rw [e6, nI_clamp (show 6 * t + i < 2 ^ 31 by omega), hE 293 _ (by unfold STL; omega), hE 294 _ (by unfold STL; omega), s2, nI_clamp (show p < 2 ^ 31 by omega), hE 303 _ (by unfold STL; omega), s3]
    refine yGd (inB_nI (by omega) (by omega)) (yGd (inB_nI (by omega) (by omega)) (yGd (inB_nI (by omega) (by omega)) ?_))
    refine yBV (takesLetter_ok hK (by rw [List.length_append, lts_len]; omega) s1 hq rfl) (fun E1 h1 => yLt0 ?_)
    rw [nI_1]
    refine ih (i + 1) z E1 (lgM M q) (by omega) (hE.tr h1.1) ?_
    have := h1.2
    rw [List.append_assoc] at this
    rw [lts_snoc, s2, nI_cl (by omega), s3]
    exact this
theorem addsShown_ok (h : RS D T acc ts b ss a) {u y k e : Nat} (hu : u < a) (hy : y < 2) (hk : k ≤ (ss u).2) (he : e < (hsN (cl T ss u y k)).length) {x : Nat × List Nat} (hx : shE1 T acc ts (cl T ss u y k) b e = some x) (h56 : D 281 56 = nI u) (h57 : D 281 57 = nI y) (h58 : D 281 58 = nI k) (h59 : D 281 59 = nI ((hsN (cl T ss u y k)).getD e 0)) :
    Y (f_X12_addsShown D) (shQ D ts b SX (prL ts (cl T ss u y k) y k x)) := by
  obtain ⟨hMR, hT, hS, -, -⟩ := id h
  obtain ⟨hd, -, -⟩ := hS.sy hu
  have hg := lgM_le hk
  obtain ⟨hcs, hcc⟩ := hS.cl hMR.1 hu hy hk
  have hhs := hsN_in (by omega) hcc
  have hlt := (hss_lt _ (by omega) _ hhs).1
  unfold f_X12_addsShown
  rw [h56, h57, h58]
  refine yBV (takesLong_ok hS hu (isSy_n hy) (by omega)) (fun D1 h1 => ?_)
  obtain ⟨F1, hK1⟩ := h1
  rw [F1 281 59 (by omega), h59]
  have hMR1 : MR D1 0 T acc := hMR.fr (fun k => F1 _ _ (by omega))
  have hT1 : TR D1 ts b := hT.fr (F1 _ _ (by omega)) (fun j k q1 q2 => F1 _ _ (by omega))
  have hw4 : (hsN (cl T ss u y k)).getD e 0 < 4 := by
    have := hlt (e + 1) (by omega) (by omega)
    rw [Nat.add_sub_cancel] at this
    omega
  have hsh := shR_held (M := lgM (ss u).2 k) (T := T) (acc := acc) (by omega) hcc hT.okT he
  rw [hx] at hsh
  have hsh2 : shR T acc ts (run T c0 ((ss u).1 ++ [(nI y, nI k)])) (lgM (ss u).2 k) b ((hsN (cl T ss u y k)).getD e 0) = some (x.1, emb (hsN (cl T ss u y k)) x.2) := by
    rw [lg_run]; exact hsh
  refine yBV (shows_ok (by omega) hMR1 hT1 hK1 hw4 hsh2) (fun D3 h3 => yLt ?_)
  obtain ⟨F3, v44, hxb, v303⟩ := h3
  dsimp only at v44 hxb v303
  intro D5 hD5
  have F5 : Fr SX D D5 := fun j k q => by
    unfold SX at q
    rw [hD5, ud_at, if_neg (by omega), F3 j k (by unfold SRM; omega), F1 j k (by omega)]
  have v57 : D5 281 57 = nI y := by rw [F5 _ _ (by unfold SX; omega), h57]
  have v58 : D5 281 58 = nI k := by rw [F5 _ _ (by unfold SX; omega), h58]
  have hT5 : TR D5 ts b := hT.fr (F5 _ _ (by unfold SX; omega)) (fun j k q1 q2 => F5 _ _ (by unfold SX; omega))
  obtain ⟨n, hn, h292, hts, hd3, hs, -⟩ := hT5.2.2 x.1 hxb
  rw [v57, v58]
  refine yBV (takesLetter_ok (LKm.nil (D := D5) (by rw [hD5, ud_at, if_pos ⟨rfl, rfl⟩])) (by decide) (isSy_n hy) (show k < 1000 by omega) rfl) (fun D7 h7 => ?_)
  have p303 : ∀ i, i < (ts x.1).2 → D5 303 i = asv (emb (hsN (cl T ss u y k)) x.2) i := fun i hi => by
    rw [hD5, ud_at, if_neg (by omega)]; exact v303 i hi
  have sv : ∀ i, i < 3 → (dig x.2 i = 0 ∧ asv (emb (hsN (cl T ss u y k)) x.2) i = nI (100 + i) ∧ dnm 1000 (lnm (hsN (cl T ss u y k))) (dig x.2 i) i = nI (1000 + i)) ∨ ∃ q, q < 100 ∧ asv (emb (hsN (cl T ss u y k)) x.2) i = nI q ∧ dnm 1000 (lnm (hsN (cl T ss u y k))) (dig x.2 i) i = nI q := fun i hi => by
    unfold asv emb
    rw [dig_map (f := fun g => if g = 0 then 0 else (hsN (cl T ss u y k)).getD (g - 1) 0 + 1) rfl]
    unfold dnm
    by_cases c : dig x.2 i = 0
    · left
      rw [c]
      exact ⟨rfl, rfl, rfl⟩
    · right
      refine ⟨(hsN (cl T ss u y k)).getD (dig x.2 i - 1) 0, ?_, ?_, ?_⟩
      · by_cases c2 : dig x.2 i ≤ (hsN (cl T ss u y k)).length
        · have := hlt _ c2 c; omega
        · rw [List.getD_eq_getElem?_getD, List.getElem?_eq_none (by omega)]; decide
      · rw [if_neg c, if_neg (by omega), Nat.add_sub_cancel]
      · rw [if_neg c]; rfl
  obtain ⟨q, hq⟩ := FUs n (by omega)
  rw [hq, ← nI_0]
  have key := as43 (D0 := D) (D5 := D5) (t := x.1) (n := n) (l0 := [(nI y, nI k)]) hT5 hxb (by rw [hD5, ud_at, if_neg (by omega), v44]) h292 hn F5 (by rw [List.length_singleton]; omega) (fun i hi => ?_) n 0 q D7 (lgM 0 k) (by omega) h7.1 h7.2
  · have sim : SimW Rq (prL ts (cl T ss u y k) y k x) ([(nI y, nI k)] ++ lts (fun i => D5 293 (6 * x.1 + i)) (fun i => D5 303 (D5 294 (6 * x.1 + i)).toNatClampNeg) 0 n) := by
      refine ⟨rfl, Or.inr (Or.inl ⟨k, by omega, rfl, rfl⟩), ?_⟩
      have e1 : lts (fun i => D5 293 (6 * x.1 + i)) (fun i => D5 303 (D5 294 (6 * x.1 + i)).toNatClampNeg) 0 n = ins (ts x.1).1 (fun z => D5 303 z.toNatClampNeg) := by
        rw [hts, ins_lts]
      show SimW Rq (ins (ts x.1).1 _) _
      have e2 : List.append [] (lts (fun i => D5 293 (6 * x.1 + i)) (fun i => D5 303 (D5 294 (6 * x.1 + i)).toNatClampNeg) 0 n) = lts (fun i => D5 293 (6 * x.1 + i)) (fun i => D5 303 (D5 294 (6 * x.1 + i)).toNatClampNeg) 0 n := rfl
      refine Eq.mpr (congrArg (SimW Rq (ins (ts x.1).1 _)) (e2.trans e1)) ?_
      refine SimW.map (R := Rq) (f := nmg 1000 (lnm (hsN (cl T ss u y k))) x.2) (g := fun z => D5 303 z.toNatClampNeg) (w := (ts x.1).1) (fun z hz => ?_)
      obtain ⟨-, i, hi, ei⟩ := (hT5.okT x.1 hxb).2 z hz
      rw [ei, nmg_at (by omega), nI_cl (by omega), p303 i hi]
      rcases sv i (by omega) with ⟨-, a2, a3⟩ | ⟨q, hq, a2, a3⟩
      · rw [a2, a3]; exact Or.inr (Or.inr ⟨i, by omega, rfl, rfl⟩)
      · rw [a2, a3]; exact Or.inr (Or.inl ⟨q, hq, rfl, rfl⟩)
    obtain ⟨o1, o2⟩ := okA_sim (ts := ts) (b := b) Rq_bij sim
    unfold shQ at key ⊢
    rw [← o1, ← o2] at key
    exact key
  · obtain ⟨s1, j, hj, s2⟩ := hs i hi
    refine ⟨s1, j, by omega, s2, ?_⟩
    rw [p303 j hj]
    rcases sv j (by omega) with ⟨-, a2, -⟩ | ⟨q, hq, a2, -⟩
    · exact ⟨100 + j, by omega, a2⟩
    · exact ⟨q, by omega, a2⟩
theorem ap12 {D0 : Dm} {w : List Lt} {s : Nat} (hT : TR D0 ts b) (hW : WR D0 w) (hL : LTR 2 w) (hs : s < w.length) : ∀ (j i z : Nat) (E : Dm) (M : Nat), i + j = w.length → s + 1 ≤ i → Fr STL D0 E → LKm E ((w.drop (s + 1)).take (i - (s + 1))) M → Y (f_X12_addsSplit_12 (j + 1 + z) (nI i) E) (shQ D0 ts b STL (w.drop (s + 1))) := by
  obtain ⟨w20, h64, hw⟩ := hW
  intro j
  induction j with
  | zero =>
    intro i z E M hi hsi hE hK
    rw [show 0 + 1 + z = z + 1 by omega]
    show Y (f_X12_addsSplit_12_b _ _ _) _
    unfold f_X12_addsSplit_12_b
    rw [hE 281 64 (by unfold STL; omega), h64]
    refine yPos (by rw [show i = w.length by omega]; exact nI_le (Nat.le_refl _) (by omega)) ?_
    rw [List.take_of_length_le (by rw [List.length_drop]; omega)] at hK
    exact adds_end (fun k => by unfold STL; omega) hE (hT.fr (hE _ _ (by unfold STL; omega)) (fun j k q1 q2 => hE _ _ (by unfold STL; omega))) hK
  | succ j ih =>
    intro i z E M hi hsi hE hK
    rw [show j + 1 + 1 + z = (j + 1 + z) + 1 by omega]
    show Y (f_X12_addsSplit_12_b _ _ _) _
    unfold f_X12_addsSplit_12_b
    rw [hE 281 64 (by unfold STL; omega), h64]
    refine yNeg (nI_nle2 (by omega) (by omega)) (yGd (inB_nI (by omega) (by omega)) (yGd (inB_nI (by omega) (by omega)) ?_))
    rw [nI_clamp (by omega), hE 308 i (by unfold STL; omega), hE 309 i (by unfold STL; omega), (hw i (by omega)).1, (hw i (by omega)).2]
    have hi2 : i < w.length := by omega
    have gi : w.getD i (0, 0) = w[i] := by rw [List.getD_eq_getElem?_getD, List.getElem?_eq_getElem hi2]; rfl
    obtain ⟨y, k, hy, hk, e⟩ := hL w[i] (List.getElem_mem hi2)
    rw [gi, e]
    refine yBV (takesLetter_ok hK (by rw [List.length_take]; omega) (isSy_n hy) (show k < 1000 by omega) rfl) (fun E1 h1 => yLt0 ?_)
    rw [nI_1]
    refine ih (i + 1) z E1 (lgM M k) (by omega) (by omega) (hE.tr h1.1) ?_
    have e2 : (w.drop (s + 1)).take (i + 1 - (s + 1)) = (w.drop (s + 1)).take (i - (s + 1)) ++ [(nI y, nI k)] := by
      rw [show i + 1 - (s + 1) = (i - (s + 1)) + 1 by omega, List.take_add_one, List.getElem?_drop, show s + 1 + (i - (s + 1)) = i by omega, List.getElem?_eq_getElem hi2, e]
      rfl
    rw [e2]
    exact h1.2
theorem addsSplit_ok {w : List Lt} {s : Nat} (hT : TR D ts b) (hW : WR D w) (hL : LTR 2 w) (hs : s < w.length) (h65 : D 281 65 = nI s) : Y (f_X12_addsSplit D) (shQ D ts b STL (w.drop (s + 1))) := by
  unfold f_X12_addsSplit
  have h20 := hW.1
  refine yLt (fun D1 hD1 => yLt0 ?_)
  have F1 : Fr STL D D1 := fun j k q => by
    unfold STL at q
    rw [hD1, ud_at, if_neg (by omega)]
  rw [F1 281 65 (by unfold STL; omega), h65, nI_1]
  obtain ⟨z, hz⟩ := FUs (w.length - (s + 1)) (by omega)
  rw [hz]
  refine ap12 hT hW hL hs (w.length - (s + 1)) (s + 1) z D1 0 (by omega) (Nat.le_refl _) F1 ?_
  rw [Nat.sub_self]
  exact LKm.nil (by rw [hD1, ud_at, if_pos ⟨rfl, rfl⟩])
end
