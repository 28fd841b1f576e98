/-! ===== a line of a machine's text: what both keep ===== -/
section
variable {D E : Dm} {c : Nat → Nat} {n p : Nat}
def fN (f : Nat → Bool) : Nat := (if f 0 = true then 1 else 0) + (if f 1 = true then 2 else 0) + (if f 2 = true then 4 else 0)
def MV (S R Y : Nat) (to ke dr : Nat → Int32) : Prop := ∀ k, k < 30 → (to k = -1 ∧ ke k = -1 ∧ dr k = -1) ∨ (∃ t, t < S ∧ to k = nI t ∧ (ke k = -1 ∨ ∃ r, r < R ∧ ke k = nI r) ∧ (dr k = -1 ∨ ∃ r, r < R ∧ dr k = nI r) ∧ (k % 3 = 2 ∨ k % 3 < R) ∧ k / 3 % 2 < Y ∧ k / 6 < S)
def DRV (D E : Dm) (V : Nat → Nat) (A : Nat) (f : Nat → Bool) (fb : Bool) : Prop :=
  ((1 ≤ V 0 ∧ V 0 ≤ 5) ∧ V 1 ≤ 2 ∧ (1 ≤ V 2 ∧ V 2 ≤ 2) ∧ A < 32) ∧
  (∀ x, x < 3 → D 4 x = nI (V x) ∧ E 283 x = nI (V x) ∧ D 3 (x + 1) = b01 (f x)) ∧ (D 4 3 = nI A ∧ E 283 3 = nI A) ∧
  (∀ k, k < 30 → E 283 (4 + 3 * k) = D 5 k ∧ E 283 (4 + 3 * k + 1) = D 6 k ∧ E 283 (4 + 3 * k + 2) = D 7 k) ∧
  MV (V 0) (V 1) (V 2) (D 5) (D 6) (D 7) ∧ (fb = false → A = 0 ∧ ∀ k, k < 30 → D 5 k = -1 ∧ D 6 k = -1 ∧ D 7 k = -1) ∧
  D 3 4 = b01 fb ∧ E 281 13 = b01 fb ∧ E 281 12 = nI (fN f)
def DRF (D E : Dm) : Prop := ∃ V A f fb, DRV D E V A f fb
abbrev SCM (j k : Nat) : Prop := (j = 1 ∧ (3 ≤ k ∧ k ≤ 7)) ∨ (3 ≤ j ∧ j ≤ 7)
abbrev SRX (j k : Nat) : Prop := (j = 281 ∧ (9 ≤ k ∧ k ≤ 13)) ∨ j = 283
theorem SCR_M {j k : Nat} (h : SCR j k) : SCM j k := Or.inl h
theorem SRF_X {j k : Nat} (h : SRF j k) : SRX j k := Or.inl ⟨h.1, h.2.1, by have := h.2.2; omega⟩
theorem DRV.fr {D' E' : Dm} {V : Nat → Nat} {A : Nat} {f : Nat → Bool} {fb : Bool} (h : DRV D E V A f fb) (hD : Fr SCR D D') (hE : Fr SRF E E') : DRV D' E' V A f fb := by
  obtain ⟨h1, h2, h3, h4, h5, h6, h7, h8, h9⟩ := h
  have d5 : D' 5 = D 5 := funext (fun k => hD _ _ (by unfold SCR; omega))
  have d6 : D' 6 = D 6 := funext (fun k => hD _ _ (by unfold SCR; omega))
  have d7 : D' 7 = D 7 := funext (fun k => hD _ _ (by unfold SCR; omega))
  have e3 : E' 283 = E 283 := funext (fun k => hE _ _ (by unfold SRF; omega))
  refine ⟨h1, fun x hx => ?_, ?_, ?_, ?_, ?_, ?_, ?_, ?_⟩
  · rw [hD _ _ (by unfold SCR; omega), hD _ _ (by unfold SCR; omega), e3]; exact h2 x hx
  · rw [hD _ _ (by unfold SCR; omega), e3]; exact h3
  · rw [d5, d6, d7, e3]; exact h4
  · rw [d5, d6, d7]; exact h5
  · rw [d5, d6, d7]; exact h6
  · rw [hD _ _ (by unfold SCR; omega)]; exact h7
  · rw [hE _ _ (by unfold SRF; omega)]; exact h8
  · rw [hE _ _ (by unfold SRF; omega)]; exact h9
theorem DRF.fr {D' E' : Dm} (h : DRF D E) (hD : Fr SCR D D') (hE : Fr SRF E E') : DRF D' E' := by
  obtain ⟨V, A, f, fb, h⟩ := h
  exact ⟨V, A, f, fb, h.fr hD hE⟩
theorem JT.fr {D' E' : Dm} (h : JT D E c n p) (hD : ∀ j k, (j = 1 ∨ j = 2) → D' j k = D j k) (hE : ∀ j k, (j = 284 ∨ (j = 281 ∧ (8 ≤ k ∧ k ≤ 11))) → E' j k = E j k) : JT D' E' c n p := by
  obtain ⟨h1, h2, h3, h4, h5, h6, s, hs, h9, hp⟩ := h
  exact ⟨h1.fr (fun k _ _ => hD _ _ (by omega)) (fun k => hD _ _ (by omega)), by rw [hD _ _ (by omega)]; exact h2, by rw [hD _ _ (by omega)]; exact h3, h4.fr (hE _ _ (by omega)) (fun k => hE _ _ (by omega)), by rw [hE _ _ (by omega)]; exact h5, by rw [hE _ _ (by omega)]; exact h6, s, hs, by rw [hE _ _ (by omega)]; exact h9, hp⟩
theorem JF.fr {D' E' : Dm} (h : JF D E c n) (hD : ∀ k, (k = 6 ∨ k = 7) → D' 1 k = D 1 k) (hE : ∀ j k, (j = 284 ∨ (j = 281 ∧ (8 ≤ k ∧ k ≤ 11))) → E' j k = E j k) : JF D' E' c n := by
  obtain ⟨hb, w, q, ⟨c1, c2, c3, c4⟩, r1, r2, r3, r4, s, hs, r5⟩ := h
  exact ⟨hb.fr (hE _ _ (by omega)) (fun k => hE _ _ (by omega)), w, q, ⟨by rw [hD _ (by omega)]; exact c1, by rw [hD _ (by omega)]; exact c2, c3, c4⟩, by rw [hE _ _ (by omega)]; exact r1, by rw [hE _ _ (by omega)]; exact r2, r3, r4, s, hs, by rw [hE _ _ (by omega)]; exact r5⟩
/-- what the body of a line leaves -/
def BOD (c : Nat → Nat) (n p pl : Nat) (D0 E0 : Dm) (x : Option (Int32 × Dm)) (y : Option Dm) : Prop := ∃ fl D' E', x = some (fl, D') ∧ y = some E' ∧ Fr SCM D0 D' ∧ Fr SRX E0 E' ∧ ((fl = 0 ∧ (∃ p', p < p' ∧ JT D' E' c n p') ∧ DRF D' E') ∨ (fl = 1 ∧ ∃ D'', f_X7_refuse 3 (nI pl) D' = some D'' ∧ Fr SCM D0 D'' ∧ JF D'' E' c n) ∨ ((fl = 0 ∨ fl = 1) ∧ JF D' E' c n))
theorem blk_te {c : Nat → Nat} {n p : Nat} (h : p < n) : p < blk c n (te c n p) := by
  have t := te_le (c := c) (n := n) (p := p) (by omega)
  have := blk_le (c := c) t.2.1
  have := t.2.2 h
  omega
theorem lt_sub {v R : Nat} (hv : v < 100) (hR : R ≤ 5) (h : nI v ≤ nI R - 1) : v < R := by
  rw [Int32.le_iff_toInt_le, sub1 (by rw [nI_toInt (by omega)]; omega), nI_toInt (by omega), nI_toInt (by omega)] at h
  omega
/-- one of the first three lines -/
theorem many_b {x lo hi : Nat} {pl : Nat} (hx : x < 3) (hb : (x = 0 ∧ lo = 1 ∧ hi = 5) ∨ (x = 1 ∧ lo = 0 ∧ hi = 2) ∨ (x = 2 ∧ lo = 1 ∧ hi = 2)) (hJ : JT D E c n p) {V : Nat → Nat} {A : Nat} {f : Nat → Bool} {fb : Bool} (hR : DRV D E V A f fb) :
    BOD c n p pl D E (lt (ud D 3 (x + 1) 1) fun D1 => bI (f_X7_readNumber (nI lo) (nI hi) D1) fun y5 D3 => lt (ud D3 4 x y5) fun D6 => gd (zbB (b01 (f x || fb))) (some (b01 (f x || fb), D6))) (f_X12_manyLine (nI x) (nI lo) (nI hi) (nI pl) E) := by
  rw [lt_d]
  have F0 : Fr SCM D (ud D 3 (x + 1) 1) := Fr.refl.ud (Or.inr ⟨by omega, by omega⟩)
  have J0 : JT (ud D 3 (x + 1) 1) E c n p := hJ.fr (fun j k q => by rw [ud_at, if_neg (by omega)]) (fun _ _ _ => rfl)
  obtain ⟨v1, v2, D1, E1, e1, e2, F1, G1, res⟩ := num_j (lo := nI lo) (hi := nI hi) J0
  have zb : ∀ b, zbB (b01 b) = true := fun b => by cases b <;> decide
  unfold f_X12_manyLine f_X12_manyLine_35
  rw [e1, bI_d, lt_d, gd_t (zb _), e2, bI_d]
  have FD : Fr SCM D (ud D1 4 x v1) := (F0.tr (F1.mono (fun j k q => SCR_M q))).ud (Or.inr ⟨by omega, by omega⟩)
  have GX : Fr SRX E E1 := G1.mono (fun j k q => SRF_X q)
  have h01 : ∀ b, b01 b = 0 ∨ b01 b = 1 := fun b => by cases b; exact Or.inl rfl; exact Or.inr rfl
  rcases res with ⟨v, hv, rfl, rfl, vl, vh, J1, pn⟩ | hF
  · obtain ⟨h1, h2, h3, h4, h5, h6, h7, h8, h9⟩ := id hR
    have J2 : JT (ud D1 4 x (nI v)) E1 c n (blk c n (te c n p)) := J1.fr (fun j k q => by rw [ud_at, if_neg (by omega)]) (fun _ _ _ => rfl)
    have hv2 : lo ≤ v ∧ v ≤ hi := by
      constructor
      · by_cases q : lo ≤ v
        · exact q
        · exact absurd (nI_lt (by omega) (by omega)) vl
      · by_cases q : v ≤ hi
        · exact q
        · exact absurd vh (nI_nle2 (by omega) (by omega))
    rw [if_pos J1.2.2.2.2.1, G1 281 13 (by unfold SRF; omega), h8, G1 281 12 (by unfold SRF; omega), h9]
    have bit : (((nI (fN f)) >>> (nI x &&& 31)) &&& 1) = b01 (f x) := by
      unfold fN
      have : x = 0 ∨ x = 1 ∨ x = 2 := by omega
      rcases this with rfl | rfl | rfl <;> cases f 0 <;> cases f 1 <;> cases f 2 <;> decide
    have again : f x = true ∨ fb = true → BOD c n p pl D E (some (b01 (f x || fb), ud D1 4 x (nI v))) (bV (f_X12_fails 3 (nI pl) E1) fun D1 => some D1) := fun q => by
      obtain ⟨D2, E2, r1, r2, r3, r4, r5⟩ := ref_j (w := 3) (q := pl) (s := 0) J2 (by omega) (by omega)
      rw [show f_X12_fails 3 (nI pl) E1 = some E2 from r2, bV_d]
      have ef : (f x || fb) = true := by rcases q with q | q <;> rw [q] <;> simp
      rw [ef]
      exact ⟨1, _, E2, rfl, rfl, FD, GX.tr (r4.mono (fun j k q => SRF_X q)), Or.inr (Or.inl ⟨rfl, D2, r1, FD.tr (r3.mono (fun j k q => SCR_M q)), r5⟩)⟩
    cases hfb : fb with
    | true =>
      rw [if_neg (show ¬ b01 true = 0 by decide), ← hfb]
      exact again (Or.inr hfb)
    | false =>
      rw [if_pos (show b01 false = 0 from rfl), bit]
      cases hfx : f x with
      | true =>
        rw [if_pos (show b01 true = 1 from rfl), ← hfb, ← hfx]
        exact again (Or.inl hfx)
      | false =>
        rw [if_neg (show ¬ b01 false = 1 by decide), lt_d, gd_t (inB_nI (by omega) (by omega)), lt_d, nI_clamp (by omega)]
        obtain ⟨a0, a1⟩ := h6 hfb
        have new : nI (fN f) ||| (1 <<< (nI x &&& 31)) = nI (fN (fun i => if i = x then true else f i)) := by
          unfold fN
          have : x = 0 ∨ x = 1 ∨ x = 2 := by omega
          rcases this with rfl | rfl | rfl <;> simp <;> cases f 0 <;> cases f 1 <;> cases f 2 <;> decide
        rw [new]
        refine ⟨0, _, _, rfl, rfl, FD, ?_, Or.inl ⟨rfl, ⟨blk c n (te c n p), blk_te pn, J2.fr (fun _ _ _ => rfl) (fun j k q => by rw [ud_at, if_neg (by omega), ud_at, if_neg (by omega)])⟩, (fun i => if i = x then v else V i), A, (fun i => if i = x then true else f i), false, ?_⟩⟩
        · exact (GX.ud (Or.inl ⟨rfl, by omega, by omega⟩)).ud (Or.inr rfl)
        · have dj : ∀ j k, ¬ (j = 1 ∧ (3 ≤ k ∧ k ≤ 7)) → ¬ (j = 3 ∧ k = x + 1) → ¬ (j = 4 ∧ k = x) → (ud D1 4 x (nI v)) j k = D j k := fun j k q1 q2 q3 => by
            rw [ud_at, if_neg q3, F1 j k (by unfold SCR; exact q1), ud_at, if_neg q2]
          have ej : ∀ j k, ¬ (j = 281 ∧ (9 ≤ k ∧ k ≤ 12)) → ¬ (j = 283 ∧ k = x) → (ud (ud E1 281 12 (nI (fN (fun i => if i = x then true else f i)))) 283 x (nI v)) j k = E j k := fun j k q1 q2 => by
            rw [ud_at, if_neg q2, ud_at, if_neg (by omega), G1 j k (by unfold SRF; omega)]
          have d5 : (ud D1 4 x (nI v)) 5 = D 5 := funext (fun k => dj _ _ (by omega) (by omega) (by omega))
          have d6 : (ud D1 4 x (nI v)) 6 = D 6 := funext (fun k => dj _ _ (by omega) (by omega) (by omega))
          have d7 : (ud D1 4 x (nI v)) 7 = D 7 := funext (fun k => dj _ _ (by omega) (by omega) (by omega))
          refine ⟨⟨?_, ?_, ?_, h1.2.2.2⟩, fun y hy => ?_, ⟨by rw [dj _ _ (by omega) (by omega) (by omega)]; exact h3.1, by rw [ej _ _ (by omega) (by omega)]; exact h3.2⟩, fun k hk => ?_, ?_, fun _ => ?_, ?_, ?_, ?_⟩
          · show 1 ≤ (if 0 = x then v else V 0) ∧ (if 0 = x then v else V 0) ≤ 5
            by_cases e : 0 = x
            · rw [if_pos e]; omega
            · rw [if_neg e]; exact h1.1
          · show (if 1 = x then v else V 1) ≤ 2
            by_cases e : 1 = x
            · rw [if_pos e]; omega
            · rw [if_neg e]; exact h1.2.1
          · show 1 ≤ (if 2 = x then v else V 2) ∧ (if 2 = x then v else V 2) ≤ 2
            by_cases e : 2 = x
            · rw [if_pos e]; omega
            · rw [if_neg e]; exact h1.2.2.1
          · dsimp only
            by_cases e : y = x
            · rw [if_pos e, if_pos e, e]
              refine ⟨by rw [ud_at, if_pos ⟨rfl, rfl⟩], by rw [ud_at, if_pos ⟨rfl, rfl⟩], ?_⟩
              rw [ud_at, if_neg (by omega), F1 _ _ (by unfold SCR; omega), ud_at, if_pos ⟨rfl, rfl⟩]; rfl
            · rw [if_neg e, if_neg e, dj _ _ (by omega) (by omega) (by omega), ej _ _ (by omega) (by omega), dj _ _ (by omega) (by omega) (by omega)]
              exact h2 y hy
          · rw [d5, d6, d7, ej _ _ (by omega) (by omega), ej _ _ (by omega) (by omega), ej _ _ (by omega) (by omega)]; exact h4 k hk
          · rw [d5, d6, d7]
            exact fun k hk => Or.inl (a1 k hk)
          · rw [d5, d6, d7]
            exact ⟨a0, a1⟩
          · rw [dj _ _ (by omega) (by omega) (by omega), h7, hfb]
          · rw [ej _ _ (by omega) (by omega), h8, hfb]
          · rw [ud_at, if_neg (by omega), ud_at, if_pos ⟨rfl, rfl⟩]
  · rw [if_neg hF.ne.2]
    exact ⟨_, _, E1, rfl, rfl, FD, GX, Or.inr (Or.inr ⟨h01 _, hF.fr (fun k q => by rw [ud_at, if_neg (by omega)]) (fun _ _ _ => rfl)⟩)⟩
theorem acc_bit : ∀ A, A < 32 → ∀ v, v < 5 → ((nI A &&& ((1 : Int32) <<< (nI v &&& 31))) = 0 ↔ ¬ (((nI A) >>> (nI v &&& 31)) &&& 1) = 1) ∧ nI A ||| ((1 : Int32) <<< (nI v &&& 31)) = nI (A ||| 2 ^ v) ∧ A ||| 2 ^ v < 32 := by decide +kernel
/-- a line of an accepting state -/
theorem acc_b {pl : Nat} (hJ : JT D E c n p) (hR : DRF D E) : BOD c n p pl D E (f_X5_readAccept D) (f_X12_acceptLine (nI pl) E) := by
  obtain ⟨V, A, f, fb, hR⟩ := hR
  obtain ⟨h1, h2, h3, h4, h5, h6, h7, h8, h9⟩ := id hR
  unfold f_X5_readAccept f_X12_acceptLine f_X12_acceptLine_42 f_X5_readAccept_39
  rw [lt_d]
  have F0 : Fr SCM D (ud D 3 4 1) := Fr.refl.ud (Or.inr ⟨by omega, by omega⟩)
  have J0 : JT (ud D 3 4 1) E c n p := hJ.fr (fun j k q => by rw [ud_at, if_neg (by omega)]) (fun _ _ _ => rfl)
  rw [show (ud D 3 4 1) 4 0 = nI (V 0) by rw [ud_at, if_neg (by omega)]; exact (h2 0 (by omega)).1, (h2 0 (by omega)).2.1]
  obtain ⟨v1, v2, D1, E1, e1, e2, F1, G1, res⟩ := num_j (lo := 0) (hi := nI (V 0) - 1) J0
  rw [e1, bI_d, lt_d, e2, bI_d]
  have FD1 : Fr SCM D D1 := F0.tr (F1.mono (fun j k q => SCR_M q))
  have GX : Fr SRX E E1 := G1.mono (fun j k q => SRF_X q)
  have z0 : zbB 0 = true := by decide
  have z1 : zbB 1 = true := by decide
  have i3 : D1 4 3 = nI A := by rw [F1 _ _ (by unfold SCR; omega), ud_at, if_neg (by omega)]; exact h3.1
  have j3 : E1 283 3 = nI A := by rw [G1 _ _ (by unfold SRF; omega)]; exact h3.2
  rcases res with ⟨v, hv, rfl, rfl, vl, vh, J1, pn⟩ | hF
  · have hvS := lt_sub hv (by omega) vh
    obtain ⟨b1, b2, b3⟩ := acc_bit A h1.2.2.2 v (by omega)
    rw [if_pos J1.2.2.2.2.1, lt_d, lt_d, i3, j3, b2]
    have FD : Fr SCM D (ud D1 4 3 (nI (A ||| 2 ^ v))) := FD1.ud (Or.inr ⟨by omega, by omega⟩)
    have J2 : JT (ud D1 4 3 (nI (A ||| 2 ^ v))) E1 c n (blk c n (te c n p)) := J1.fr (fun j k q => by rw [ud_at, if_neg (by omega)]) (fun _ _ _ => rfl)
    by_cases q : (nI A &&& ((1 : Int32) <<< (nI v &&& 31))) = 0
    · rw [if_pos q, gd_t z0, if_neg (b1.mp q), lt_d, lt_d]
      refine ⟨0, _, _, rfl, rfl, FD, (GX.ud (Or.inr rfl)).ud (Or.inl ⟨rfl, by omega, by omega⟩), Or.inl ⟨rfl, ⟨_, blk_te pn, J2.fr (fun _ _ _ => rfl) (fun j k q => by rw [ud_at, if_neg (by omega), ud_at, if_neg (by omega)])⟩, V, A ||| 2 ^ v, f, true, ?_⟩⟩
      have dj : ∀ j k, ¬ (j = 1 ∧ (3 ≤ k ∧ k ≤ 7)) → ¬ (j = 3 ∧ k = 4) → ¬ (j = 4 ∧ k = 3) → (ud D1 4 3 (nI (A ||| 2 ^ v))) j k = D j k := fun j k q1 q2 q3 => by
        rw [ud_at, if_neg q3, F1 j k (by unfold SCR; exact q1), ud_at, if_neg q2]
      have ej : ∀ j k, ¬ (j = 281 ∧ ((9 ≤ k ∧ k ≤ 11) ∨ k = 13)) → ¬ (j = 283 ∧ k = 3) → (ud (ud E1 283 3 (nI (A ||| 2 ^ v))) 281 13 1) j k = E j k := fun j k q1 q2 => by
        rw [ud_at, if_neg (by omega), ud_at, if_neg q2, G1 j k (by unfold SRF; omega)]
      have d5 : (ud D1 4 3 (nI (A ||| 2 ^ v))) 5 = D 5 := funext (fun k => dj _ _ (by omega) (by omega) (by omega))
      have d6 : (ud D1 4 3 (nI (A ||| 2 ^ v))) 6 = D 6 := funext (fun k => dj _ _ (by omega) (by omega) (by omega))
      have d7 : (ud D1 4 3 (nI (A ||| 2 ^ v))) 7 = D 7 := funext (fun k => dj _ _ (by omega) (by omega) (by omega))
      refine ⟨⟨h1.1, h1.2.1, h1.2.2.1, b3⟩, fun y hy => ?_, ⟨by rw [ud_at, if_pos ⟨rfl, rfl⟩], by rw [ud_at, if_neg (by omega), ud_at, if_pos ⟨rfl, rfl⟩]⟩, fun k hk => ?_, ?_, (fun z => by cases z), ?_, ?_, ?_⟩
      · rw [dj _ _ (by omega) (by omega) (by omega), ej _ _ (by omega) (by omega), dj _ _ (by omega) (by omega) (by omega)]
        exact h2 y hy
      · rw [d5, d6, d7, ej _ _ (by omega) (by omega), ej _ _ (by omega) (by omega), ej _ _ (by omega) (by omega)]; exact h4 k hk
      · rw [d5, d6, d7]; exact h5
      · rw [ud_at, if_neg (by omega), F1 _ _ (by unfold SCR; omega), ud_at, if_pos ⟨rfl, rfl⟩]; rfl
      · rw [ud_at, if_pos ⟨rfl, rfl⟩]; rfl
      · rw [ej _ _ (by omega) (by omega)]; exact h9
    · have q2 : (((nI A) >>> (nI v &&& 31)) &&& 1) = 1 := by
        by_cases z : (((nI A) >>> (nI v &&& 31)) &&& 1) = 1
        · exact z
        · exact absurd (b1.mpr z) q
      rw [if_neg q, gd_t z1, if_pos q2]
      obtain ⟨D2, E2, r1, r2, r3, r4, r5⟩ := ref_j (w := 3) (q := pl) (s := 0) J2 (by omega) (by omega)
      rw [show f_X12_fails 3 (nI pl) E1 = some E2 from r2, bV_d, lt_d, lt_d]
      refine ⟨1, _, _, rfl, rfl, FD, ((GX.tr (r4.mono (fun j k q => SRF_X q))).ud (Or.inr rfl)).ud (Or.inl ⟨rfl, by omega, by omega⟩), Or.inr (Or.inl ⟨rfl, D2, r1, FD.tr (r3.mono (fun j k q => SCR_M q)), r5.fr (fun _ _ => rfl) (fun j k q => by rw [ud_at, if_neg (by omega), ud_at, if_neg (by omega)])⟩)⟩
  · rw [if_neg hF.ne.2, lt_d, lt_d, gd_t z0, gd_t z1]
    have hF2 : ∀ x, JF (ud D1 4 3 x) E1 c n := fun x => hF.fr (fun k q => by rw [ud_at, if_neg (by omega)]) (fun _ _ _ => rfl)
    by_cases q : (D1 4 3 &&& ((1 : Int32) <<< (v1 &&& 31))) = 0
    · rw [if_pos q]
      exact ⟨0, _, E1, rfl, rfl, FD1.ud (Or.inr ⟨by omega, by omega⟩), GX, Or.inr (Or.inr ⟨Or.inl rfl, hF2 _⟩)⟩
    · rw [if_neg q]
      exact ⟨1, _, E1, rfl, rfl, FD1.ud (Or.inr ⟨by omega, by omega⟩), GX, Or.inr (Or.inr ⟨Or.inr rfl, hF2 _⟩)⟩
end
