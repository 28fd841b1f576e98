theorem pls_pre {M : Nat} {p : List Nat} {k n : Nat} : ∀ j, ∃ R, pls M p k (n + j) = pls M p k n ++ R
  | 0 => ⟨[], by simp⟩
  | j + 1 => by
    obtain ⟨R, h⟩ := pls_pre (M := M) (p := p) (k := k) (n := n) j
    refine ⟨R ++ if p.contains (n + j + 1) = true then [] else insts M (p ++ [n + j + 1]) k, ?_⟩
    rw [← Nat.add_assoc, pls_succ, h, List.append_assoc]
theorem ans_asL {T : Tb} {acc : Int32} {ts : Tst} {b t : Nat} {c : Cf} {l gs : List Nat} {ν : Int32 → Int32} (hT : okT ts b) (ht : t < b) (hν : ∀ i, i < (ts t).2 → ν (nI i) = asL l gs i) : ans T acc c (ts t).1 ν = aG T acc ts c 100 (lnm l) t gs := by
  obtain ⟨hd, hl⟩ := hT t ht
  unfold aG
  refine ans_congr (fun a ha => ?_)
  obtain ⟨-, k, hk, e⟩ := hl a ha
  rw [e, hν k hk, nmg_at (by omega)]
  rfl
section
variable {T : Tb} {acc : Int32} {ts : Tst} {b t M M' way : Nat} {c c' : Cf} {l l' : List Nat}
theorem aa_ok (hM : M < 5) (hM' : M' < 5) (hl : l ∈ hss M) (hl' : l' ∈ hss M') (hlen : l.length = l'.length) (hw : way = 0 ∨ (way = 1 ∧ l.length = 2)) (hst : okSt c.1) (hst' : okSt c'.1) (ht : t < b) :
    ∀ (k m : Nat) (p : List Nat) (D0 : Dm), MR D0 0 T acc → TR D0 ts b → getO D0 = c → getP D0 = c' → D0 281 47 = nI (bts l) → D0 281 48 = nI (bts l') → p.length + k = (ts t).2 → (∀ i, i < p.length → dig p i ≤ l.length ∧ D0 301 i = asL l p i ∧ D0 302 i = asL (wyr way l') p i) →
    Y (f_X12_areAlike (k + 1 + m) (nI t) (nI p.length) (nI (ts t).2) (nI way) D0) (fun a => a.1 = b01 ((insts l.length p k).all (fun gs => aG T acc ts c 100 (lnm l) t gs == aG T acc ts c' 100 (lnm (wyr way l')) t gs)) ∧ Fr SAA D0 a.2 ∧ ∀ i, i < p.length → a.2 301 i = D0 301 i ∧ a.2 302 i = D0 302 i) := by
  generalize hE : (fun gs => aG T acc ts c 100 (lnm l) t gs == aG T acc ts c' 100 (lnm (wyr way l')) t gs) = E
  have hl2 := (hss_in M hM l hl).1
  intro k
  induction k with
  | zero =>
    intro m p D0 hMR hT hO hP h47 h48 hpl has
    have hd := (hT.okT t ht).1
    rw [show 0 + 1 + m = m + 1 by omega]
    show Y (f_X12_areAlike_e _ _ _ _ _ _) _
    unfold f_X12_areAlike_e
    have hpl : p.length = (ts t).2 := by omega
    refine yPos (by rw [hpl]) ?_
    refine yBI (ra1_ok hMR hT ht (by rw [hO]; exact hst)) (fun v D1 h => ?_)
    dsimp only at h
    obtain ⟨e1, q1, eD1⟩ := h
    have hF1 : Fr SAA D0 D1 := by rw [eD1]; exact Fr.refl.r (by unfold SAA; omega) (by unfold SAA; omega) (by unfold SAA; omega)
    have gP : (D1 281 49, D1 281 50, D1 281 51) = c' := by
      rw [← hP]
      unfold getP
      rw [hF1 _ _ (by unfold SAA; omega), hF1 _ _ (by unfold SAA; omega), hF1 _ _ (by unfold SAA; omega)]
    have r2 := ra_ok (c := (D1 281 49, D1 281 50, D1 281 51)) (r5 := 302) (hMR.fr (fun k => hF1 282 k (by unfold SAA; omega))) (hT.fr (hF1 _ _ (by unfold SAA; omega)) (fun j k h1 h2 => hF1 j k (by unfold SAA; omega))) ht (Or.inr rfl) (by rw [gP]; exact hst')
    refine yBI r2 (fun v2 D2 h => ?_)
    dsimp only at h
    obtain ⟨e2, q2, eD2⟩ := h
    have x1 : v = b01 (aG T acc ts c 100 (lnm l) t p) := by
      rw [e1, hO, ans_asL hT.okT ht (fun i hi => ?_)]
      show D0 301 (nI i).toNatClampNeg = _
      rw [nI_clamp (by omega)]
      exact (has i (by omega)).2.1
    have x2 : v2 = b01 (aG T acc ts c' 100 (lnm (wyr way l')) t p) := by
      rw [e2, gP, ans_asL hT.okT ht (fun i hi => ?_)]
      show D1 302 (nI i).toNatClampNeg = _
      rw [nI_clamp (by omega), eD1, setR_ne (by decide)]
      exact (has i (by omega)).2.2
    have x3 : (insts l.length p 0).all E = (aG T acc ts c 100 (lnm l) t p == aG T acc ts c' 100 (lnm (wyr way l')) t p) := by
      rw [← hE]; simp [insts]
    rw [x3]
    have hF2 : Fr SAA D0 D2 := by rw [eD2]; exact hF1.r (by unfold SAA; omega) (by unfold SAA; omega) (by unfold SAA; omega)
    have k2 : ∀ j, j = 301 ∨ j = 302 → ∀ i, D2 j i = D0 j i := fun j hj i => by rw [eD2, setR_ne (by omega), eD1, setR_ne (by omega)]
    rw [x1, x2]
    cases aG T acc ts c 100 (lnm l) t p <;> cases aG T acc ts c' 100 (lnm (wyr way l')) t p
    · exact yPos rfl (yRet ⟨rfl, hF2, fun i hi => ⟨k2 _ (Or.inl rfl) i, k2 _ (Or.inr rfl) i⟩⟩)
    · exact yNeg (by decide) (yRet ⟨rfl, hF2, fun i hi => ⟨k2 _ (Or.inl rfl) i, k2 _ (Or.inr rfl) i⟩⟩)
    · exact yNeg (by decide) (yRet ⟨rfl, hF2, fun i hi => ⟨k2 _ (Or.inl rfl) i, k2 _ (Or.inr rfl) i⟩⟩)
    · exact yPos rfl (yRet ⟨rfl, hF2, fun i hi => ⟨k2 _ (Or.inl rfl) i, k2 _ (Or.inr rfl) i⟩⟩)
  | succ k ih =>
    intro m p D0 hMR hT hO hP h47 h48 hpl has
    have hd := (hT.okT t ht).1
    rw [show k + 1 + 1 + m = (k + 1 + m) + 1 by omega]
    show Y (f_X12_areAlike_e _ _ _ _ _ _) _
    unfold f_X12_areAlike_e
    have fr1 : ∀ {D : Dm}, Fr SAA D0 D → MR D 0 T acc ∧ TR D ts b ∧ getO D = c ∧ getP D = c' ∧ D 281 47 = nI (bts l) ∧ D 281 48 = nI (bts l') := fun hF => ⟨hMR.fr (fun k => hF 282 k (by unfold SAA; omega)), hT.fr (hF _ _ (by unfold SAA; omega)) (fun j k h1 h2 => hF j k (by unfold SAA; omega)), by
      rw [← hO]; unfold getO; rw [hF _ _ (by unfold SAA; omega), hF _ _ (by unfold SAA; omega), hF _ _ (by unfold SAA; omega)], by
      rw [← hP]; unfold getP; rw [hF _ _ (by unfold SAA; omega), hF _ _ (by unfold SAA; omega), hF _ _ (by unfold SAA; omega)], by rw [hF _ _ (by unfold SAA; omega)]; exact h47, by rw [hF _ _ (by unfold SAA; omega)]; exact h48⟩
    have stp : ∀ (x : Nat) (D : Dm), x ≤ l.length → Fr SAA D0 D → (∀ i, i < p.length → D 301 i = D0 301 i ∧ D 302 i = D0 302 i) → D 301 p.length = asL l (p ++ [x]) p.length → D 302 p.length = asL (wyr way l') (p ++ [x]) p.length → Y (f_X12_areAlike (k + 1 + m) (nI t) (nI (p.length + 1)) (nI (ts t).2) (nI way) D) (fun a => a.1 = b01 ((insts l.length (p ++ [x]) k).all E) ∧ Fr SAA D0 a.2 ∧ ∀ i, i < p.length → a.2 301 i = D0 301 i ∧ a.2 302 i = D0 302 i) := by
      intro x D hx hF hpr n1 n2
      obtain ⟨m1, m2, m3, m4, m5, m6⟩ := fr1 hF
      have := ih m (p ++ [x]) D m1 m2 m3 m4 m5 m6 (by simp; omega) (fun i hi => ?_)
      · rw [show (p ++ [x]).length = p.length + 1 by simp] at this
        refine yMono this (fun a h => ⟨h.1, hF.tr h.2.1, fun i hi => ?_⟩)
        obtain ⟨z1, z2⟩ := h.2.2 i (by omega)
        rw [z1, z2]
        exact hpr i hi
      · simp at hi
        by_cases e : i = p.length
        · subst e
          refine ⟨?_, n1, n2⟩
          have := dig_mid (l := p) (g := x) (sf := [])
          rw [this]; exact hx
        · rw [dig_app (by omega), asL_app (by omega), asL_app (by omega), (hpr i (by omega)).1, (hpr i (by omega)).2]
          exact has i (by omega)
    have loop : ∀ (j n q : Nat) (D : Dm), n + j = l.length → Fr SAA D0 D → (∀ i, i < p.length → D 301 i = D0 301 i ∧ D 302 i = D0 302 i) → Y (f_X12_areAlike_76 (f_X12_areAlike (k + 1 + m)) (j + 1 + q) (nI t) (nI p.length) (nI (ts t).2) (nI way) (b01 ((pls l.length p k n).all E)) (nI n) D) (fun a => a.1 = b01 ((insts l.length p (k + 1)).all E) ∧ Fr SAA D0 a.2 ∧ ∀ i, i < p.length → a.2 301 i = D0 301 i ∧ a.2 302 i = D0 302 i) := by
      have z01 : ∀ x, zbB (b01 x) = true := fun x => by cases x <;> rfl
      intro j
      induction j with
      | zero =>
        intro n q D hn hF hpr
        have hn : n = l.length := by omega
        obtain ⟨m1, m2, m3, m4, m5, m6⟩ := fr1 hF
        rw [show 0 + 1 + q = q + 1 by omega]
        show Y (f_X12_areAlike_76_b _ _ _ _ _ _ _ _ _) _
        unfold f_X12_areAlike_76_b
        rw [m5, bits_l hM hl, bI_d]
        refine yPos (by rw [hn]; exact nI_le (Nat.le_refl _) (by omega)) (yGd (z01 _) (yRet ⟨?_, hF, hpr⟩))
        rw [hn]
        rfl
      | succ j ihj =>
        intro n q D hn hF hpr
        obtain ⟨m1, m2, m3, m4, m5, m6⟩ := fr1 hF
        rw [show j + 1 + 1 + q = (j + 1 + q) + 1 by omega]
        show Y (f_X12_areAlike_76_b _ _ _ _ _ _ _ _ _) _
        unfold f_X12_areAlike_76_b
        rw [m5, bits_l hM hl, bI_d]
        refine yNeg (nI_nle2 (by omega) (by omega)) ?_
        cases hall : (pls l.length p k n).all E with
        | false =>
          refine yPos rfl (yGd (z01 _) (yRet ⟨?_, hF, hpr⟩))
          obtain ⟨R, hR⟩ := pls_pre (M := l.length) (p := p) (k := k) (n := n) (l.length - n)
          rw [show n + (l.length - n) = l.length by omega] at hR
          show b01 false = b01 ((pls l.length p k l.length).all E)
          rw [hR, List.all_append, hall]; rfl
        | true =>
          refine yNeg (by decide) ?_
          rw [m5, nameAt_l hM hl (by omega), bI_d, if_pos (show n < l.length by omega)]
          obtain ⟨z, hz⟩ := FUs p.length (by omega)
          have e110 := aa110 (self := f_X12_areAlike (k + 1 + m)) (k76 := f_X12_areAlike_76 (f_X12_areAlike (k + 1 + m)) (j + 1 + q)) (x1 := nI t) (x3 := nI (ts t).2) (x4 := nI way) (x5 := b01 true) (p := p) (n := n) (D := D) hM hl (by omega) (by omega) (fun i hi => (has i hi).1) (fun i hi => by rw [(hpr i hi).1]; exact (has i hi).2.1) p.length 0 z (by omega)
          rw [nI_0, show b01 ((p.take 0).contains (n + 1)) = 0 by simp [b01]] at e110
          rw [hz, e110]
          unfold f_X12_areAlike_189
          simp only [lt_d, nI_1]
          by_cases hcn : p.contains (n + 1) = true
          · rw [if_pos hcn]
            have := ihj (n + 1) q D (by omega) hF hpr
            rw [pls_succ, if_pos hcn, List.append_nil, hall] at this
            exact this
          · rw [if_neg hcn]
            refine yGd (inB_nI (by omega) (by omega)) ?_
            have uF : Fr SAA D0 (ud D 301 p.length (lnm l n)) := hF.ud (by unfold SAA; omega)
            obtain ⟨w1, w2, w3, w4, w5, w6⟩ := fr1 uF
            rw [setBy_ok hM hM' hl hl' w5 w6 hlen (by omega) hw, bI_d]
            refine yGd (inB_nI (by omega) (by omega)) ?_
            refine yBI (stp (n + 1) _ (by omega) (uF.ud (by unfold SAA; omega)) (fun i hi => ?_) ?_ ?_) (fun v D2 h2 => ?_)
            · rw [ud_at, if_neg (by omega), ud_at, if_neg (by omega), ud_at, if_neg (by omega), ud_at, if_neg (by omega)]
              exact hpr i hi
            · rw [ud_at, if_neg (by omega), ud_at, if_pos ⟨rfl, rfl⟩]
              unfold asL dnm
              rw [dig_mid, if_neg (by omega)]
              rfl
            · rw [ud_at, if_pos ⟨rfl, rfl⟩]
              unfold asL dnm
              rw [dig_mid, if_neg (by omega)]
              rfl
            · dsimp only at h2
              obtain ⟨e2, f2, g2⟩ := h2
              rw [e2]
              have := ihj (n + 1) q D2 (by omega) f2 g2
              rw [pls_succ, if_neg hcn, List.all_append, hall, Bool.true_and] at this
              exact this
    refine yNeg (fun e => by have := nI_inj (by omega) (by omega) e; omega) (yGd (inB_nI (by omega) (by omega)) ?_)
    rw [lt_d, nI_clamp (by omega), show (100 : Int32) + nI p.length = nI (100 + p.length) from nI_add 100 _]
    refine yGd (inB_nI (by omega) (by omega)) ?_
    rw [lt_d, nI_1]
    refine yBI (stp 0 _ (by omega) ((Fr.refl.ud (by unfold SAA; omega)).ud (by unfold SAA; omega)) (fun i hi => ?_) ?_ ?_) (fun v D2 h2 => ?_)
    · rw [ud_at, if_neg (by omega), ud_at, if_neg (by omega), ud_at, if_neg (by omega), ud_at, if_neg (by omega)]
      exact ⟨rfl, rfl⟩
    · rw [ud_at, if_neg (by omega), ud_at, if_pos ⟨rfl, rfl⟩]
      unfold asL dnm
      rw [dig_mid, if_pos rfl]
    · rw [ud_at, if_pos ⟨rfl, rfl⟩]
      unfold asL dnm
      rw [dig_mid, if_pos rfl]
    · dsimp only at h2
      obtain ⟨e2, f2, g2⟩ := h2
      rw [e2]
      obtain ⟨q, hq⟩ := FUs l.length (by omega)
      have := loop l.length 0 q D2 (by omega) f2 g2
      rw [show (pls l.length p k 0) = insts l.length (p ++ [0]) k by simp [pls], nI_0] at this
      rw [hq]
      exact this
end
