theorem sN_congr {f g : Nat → Nat} : ∀ {n : Nat}, (∀ k, k < n → f k = g k) → sN f n = sN g n
  | 0, _ => rfl
  | n + 1, h => by
    show sN f n + f n = sN g n + g n
    rw [sN_congr (fun k hk => h k (by omega)), h n (by omega)]
theorem tkn_congr {T T' : Tb} {acc : Int32} {Y : Nat} (hT : wfT T) (h : ∀ k, k < 30 → T.1 k = T'.1 k ∧ T.2.1 k = T'.2.1 k ∧ T.2.2 k = T'.2.2 k) (hY : Y ≤ 2) : ∀ {l : Nat} {c : Cf} {n : Nat}, okSt c.1 → tkn T acc Y l c n = tkn T' acc Y l c n
  | 0, c, n, _ => rfl
  | l + 1, c, n, hc => by
    unfold tkn
    refine sN_congr (fun y hy => sN_congr (fun nm _ => ?_))
    have hyS : isSy (nI y) := by
      have : y = 0 ∨ y = 1 := by omega
      rcases this with rfl | rfl <;> decide
    have e : step T c (nI y, nI nm) = step T' c (nI y, nI nm) := mst_congr h hc hyS
    rw [← e]
    exact tkn_congr hT h hY (mst_ok (fun k hk => (hT k hk).1) hc hyS)
