/-! ===== both choose the same kind and the same long word ===== -/
section
variable {D E H : Dm} {T : Tb} {acc AH : Int32} {ts ss : Tst} {b a Z : Nat}
theorem erl_tri {u y i u' y' i' : Nat} : erl u y i u' y' i' ∨ erl u' y' i' u y i ∨ (u = u' ∧ y = y' ∧ i = i') := by
  unfold erl; omega
def KD1 (D E : Dm) (T : Tb) (acc : Int32) (ts : Tst) (b : Nat) (ss : Tst) (a Z : Nat) : Prop := D 43 13 = 1 ∧ D 43 14 = -1 ∧ E 281 55 = 1 ∧ ∃ u y i e x, vld T acc ts b ss a Z u y i ∧ fgO T acc ts b ss u y i = some e ∧ shE1 T acc ts (clo T acc ts b ss u y i) b e = some x ∧ PWd D (prL ts (clo T acc ts b ss u y i) y (nmi T acc ts b ss u i) x) ∧ E 281 56 = nI u ∧ E 281 57 = nI y ∧ E 281 58 = nI (nmi T acc ts b ss u i) ∧ E 281 59 = nI ((hsN (clo T acc ts b ss u y i)).getD e 0)
def KD2 (D E : Dm) (T : Tb) (acc : Int32) (ts : Tst) (b : Nat) (ss : Tst) (a Z : Nat) : Prop := D 43 13 = 2 ∧ D 43 14 = -1 ∧ E 281 55 = 2 ∧ ∃ u y i, vld T acc ts b ss a Z u y i ∧ lkO T acc ts b ss a u y i = none ∧ PWd D (lgw T acc ts b ss u y i) ∧ E 281 56 = nI u ∧ E 281 57 = nI y ∧ E 281 58 = nI (nmi T acc ts b ss u i)
theorem kinds (hc : CK1 D T acc ts b ss a Z ∨ CK2 D T acc ts b ss a Z ∨ CK3 D T acc ts b ss a Z H AH) (hr : RK1 E T acc ts b ss a Z ∨ RK2 E T acc ts b ss a Z ∨ RK3 E T acc ts b ss a Z H AH) : KD1 D E T acc ts b ss a Z ∨ KD2 D E T acc ts b ss a Z ∨ (CK3 D T acc ts b ss a Z H AH ∧ RK3 E T acc ts b ss a Z H AH) := by
  rcases hc with ⟨c1, c2, u, y, i, e, x, hv, cf, cs, cm, cp⟩ | ⟨c1, c2, cn, u, y, i, hv, cl, cm, cp⟩ | hc
  · rcases hr with ⟨r1, u', y', i', e', hv', rf, rm, r6, r7, r8, r9⟩ | ⟨r1, rn, -⟩ | ⟨hs, -⟩
    · left
      rcases erl_tri (u := u) (y := y) (i := i) (u' := u') (y' := y') (i' := i') with q | q | ⟨rfl, rfl, rfl⟩
      · have := rm _ _ _ hv q; rw [cf] at this; cases this
      · have := cm _ _ _ hv' q; rw [rf] at this; cases this
      · rw [cf] at rf
        cases rf
        exact ⟨c1, c2, r1, u, y, i, e, x, hv, cf, cs, cp, r6, r7, r8, r9⟩
    · have := rn _ _ _ hv; rw [cf] at this; cases this
    · have := (hs.2.2.1 _ _ _ hv).1; rw [cf] at this; cases this
  · rcases hr with ⟨r1, u', y', i', e', hv', rf, rm, r6, r7, r8, r9⟩ | ⟨r1, rn, u', y', i', hv', rl, rm, r6, r7, r8⟩ | ⟨hs, -⟩
    · have := cn _ _ _ hv'; rw [rf] at this; cases this
    · right; left
      rcases erl_tri (u := u) (y := y) (i := i) (u' := u') (y' := y') (i' := i') with q | q | ⟨rfl, rfl, rfl⟩
      · exact absurd cl (rm _ _ _ hv q)
      · exact absurd rl (cm _ _ _ hv' q)
      · exact ⟨c1, c2, r1, u, y, i, hv, cl, cp, r6, r7, r8⟩
    · exact absurd cl (hs.2.2.1 _ _ _ hv).2
  · rcases hr with ⟨r1, u', y', i', e', hv', rf, -⟩ | ⟨r1, rn, u', y', i', hv', rl, -⟩ | hr
    · have := (hc.1 _ _ _ hv').1; rw [rf] at this; cases this
    · exact absurd rl (hc.1 _ _ _ hv').2
    · exact Or.inr (Or.inr ⟨hc, hr⟩)
end
