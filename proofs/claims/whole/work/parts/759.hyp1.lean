/-! ===== the hypothesis, one step ===== -/
def hix (c : Cf) (nm : Int32) (n : Nat) : Nat := if c.2.1 = nm then 0 else if c.2.2 = nm then 1 else n
def nmd (ku : List Nat) (d i : Nat) : Nat := if i < ku.length then ku.getD i 0 else d
def vlN (ku : List Nat) (name : Nat) (c : Cf) (nm : Int32) (x : Nat) : Int32 := if x = name then nm else if 0 < ku.length ∧ ku.getD 0 0 = x then c.2.1 else c.2.2
theorem vl_eq {ku : List Nat} {d x : Nat} {c : Cf} {nm : Int32} (hl : ku.length ≤ 2) (hd : ∀ p ∈ ku, p < d) (hnd : ku.Nodup) (hnm : nm ≠ -1) (hr : hreg ku.length c) (hx : x = nmd ku d (hix c nm ku.length) ∨ x ∈ ku) : hpk (if plI ku x = -1 then 2 else plI ku x) c nm = vlN ku (nmd ku d (hix c nm ku.length)) c nm x := by
  obtain ⟨s, r0, r1⟩ := c
  have n1 : (0 : Int32) ≠ -1 := by decide
  have n2 : (1 : Int32) ≠ -1 := by decide
  have n3 : (2 : Int32) ≠ -1 := by decide
  have n4 : (0 : Int32) ≠ 2 := by decide
  have n5 : (1 : Int32) ≠ 2 := by decide
  have n6 : (1 : Int32) ≠ 0 := by decide
  rcases ku with _ | ⟨p, _ | ⟨q, _ | ⟨t, l⟩⟩⟩
  · simp [hreg] at hr
    obtain ⟨rfl, rfl⟩ := hr
    simp [hix, nmd, hnm.symm] at hx
    simp [hix, nmd, vlN, plI, plc1, oI, hpk, n3, hnm.symm, hx]
  · simp [hreg] at hr
    obtain ⟨h0, rfl⟩ := hr
    have hp := hd p (by simp)
    by_cases c0 : r0 = nm
    · subst c0
      have hx : x = p := by simpa [hix, nmd] using hx
      subst hx
      simp [hix, nmd, vlN, plI, plc1, oI, hpk, nI_0, n1, n4]
    · have hx : x = d ∨ x = p := by simpa [hix, nmd, c0, hnm.symm] using hx
      rcases hx with rfl | rfl
      · have : ¬ p = x := by omega
        simp [hix, nmd, vlN, plI, plc1, oI, hpk, n3, c0, hnm.symm, this]
      · have : ¬ x = d := by omega
        simp [hix, nmd, vlN, plI, plc1, oI, hpk, nI_0, n1, n4, c0, hnm.symm, this]
  · simp [hreg] at hr
    obtain ⟨h0, h1, h01⟩ := hr
    have hp := hd p (by simp)
    have hq := hd q (by simp)
    have hpq : p ≠ q := by simpa using hnd
    have e1 : nI 1 = 1 := rfl
    by_cases c0 : r0 = nm
    · subst c0
      have hx : x = p ∨ x = q := by
        rcases hx with e | e
        · left; simpa [hix, nmd] using e
        · simpa using e
      rcases hx with rfl | rfl
      · simp [hix, nmd, vlN, plI, plc1, oI, hpk, nI_0, n1, n4]
      · simp [hix, nmd, vlN, plI, plc1, oI, hpk, nI_0, n2, n5, n6, e1, hpq, hpq.symm]
    · by_cases c1 : r1 = nm
      · subst c1
        have hx : x = q ∨ x = p := by
          rcases hx with e | e
          · left; simpa [hix, nmd, c0] using e
          · exact (by simpa using e : x = p ∨ x = q).symm
        rcases hx with rfl | rfl
        · simp [hix, nmd, vlN, plI, plc1, oI, hpk, nI_0, n2, n5, n6, e1, c0, hpq]
        · simp [hix, nmd, vlN, plI, plc1, oI, hpk, nI_0, n1, n4, c0, hpq]
      · have hx : x = d ∨ x = p ∨ x = q := by
          rcases hx with e | e
          · left; simpa [hix, nmd, c0, c1] using e
          · right; simpa using e
        rcases hx with rfl | rfl | rfl
        · have t1 : ¬ p = x := by omega
          have t2 : ¬ q = x := by omega
          simp [hix, nmd, vlN, plI, plc1, oI, hpk, n3, c0, c1, t1, t2]
        · have : ¬ x = d := by omega
          simp [hix, nmd, vlN, plI, plc1, oI, hpk, nI_0, n1, n4, c0, c1, this]
        · have : ¬ x = d := by omega
          simp [hix, nmd, vlN, plI, plc1, oI, hpk, nI_0, n2, n5, n6, e1, c0, c1, this, hpq]
  · simp at hl
/-- the values of two names differ, and each is one of three -/
theorem vl_inj {ku : List Nat} {d x z : Nat} {c : Cf} {nm : Int32} (hl : ku.length ≤ 2) (hd : ∀ p ∈ ku, p < d) (hnd : ku.Nodup) (hnm : nm ≠ -1) (hr : hreg ku.length c) (hx : x = nmd ku d (hix c nm ku.length) ∨ x ∈ ku) (hz : z = nmd ku d (hix c nm ku.length) ∨ z ∈ ku) (hxz : x ≠ z) : vlN ku (nmd ku d (hix c nm ku.length)) c nm x ≠ vlN ku (nmd ku d (hix c nm ku.length)) c nm z := by
  obtain ⟨s, r0, r1⟩ := c
  rcases ku with _ | ⟨p, _ | ⟨q, _ | ⟨t, l⟩⟩⟩
  · simp [hix, nmd] at hx hz; omega
  · simp [hreg] at hr
    obtain ⟨h0, rfl⟩ := hr
    have hp := hd p (by simp)
    by_cases c0 : r0 = nm
    · subst c0
      simp [hix, nmd] at hx hz; omega
    · have hx : x = d ∨ x = p := by simpa [hix, nmd, c0, hnm.symm] using hx
      have hz : z = d ∨ z = p := by simpa [hix, nmd, c0, hnm.symm] using hz
      have t1 : ¬ p = d := by omega
      rcases hx with rfl | rfl <;> rcases hz with rfl | rfl
      · exact absurd rfl hxz
      · simp [hix, nmd, vlN, c0, hnm.symm, t1, Ne.symm c0, hxz.symm, Ne.symm]
      · simp [hix, nmd, vlN, c0, hnm.symm, t1, hxz]
      · exact absurd rfl hxz
  · simp [hreg] at hr
    obtain ⟨h0, h1, h01⟩ := hr
    have hp := hd p (by simp)
    have hq := hd q (by simp)
    have hpq : p ≠ q := by simpa using hnd
    have t1 : ¬ p = d := by omega
    have t2 : ¬ q = d := by omega
    by_cases c0 : r0 = nm
    · subst c0
      have f : ∀ w, (w = nmd [p, q] d (hix (s, r0, r1) r0 2) ∨ w ∈ [p, q]) → w = p ∨ w = q := fun w h => by
        rcases h with e | e
        · left; simpa [hix, nmd] using e
        · simpa using e
      rcases f x hx with rfl | rfl <;> rcases f z hz with rfl | rfl
      · exact absurd rfl hxz
      · simp [hix, nmd, vlN, hpq, hpq.symm, h01]
      · simp [hix, nmd, vlN, hpq, hpq.symm]
        exact Ne.symm h01
      · exact absurd rfl hxz
    · by_cases c1 : r1 = nm
      · subst c1
        have f : ∀ w, (w = nmd [p, q] d (hix (s, r0, r1) r1 2) ∨ w ∈ [p, q]) → w = p ∨ w = q := fun w h => by
          rcases h with e | e
          · right; simpa [hix, nmd, c0] using e
          · simpa using e
        rcases f x hx with rfl | rfl <;> rcases f z hz with rfl | rfl
        · exact absurd rfl hxz
        · simp [hix, nmd, vlN, c0, hpq, hpq.symm, h01]
        · simp [hix, nmd, vlN, c0, hpq, hpq.symm]
          exact Ne.symm c0
        · exact absurd rfl hxz
      · have f : ∀ w, (w = nmd [p, q] d (hix (s, r0, r1) nm 2) ∨ w ∈ [p, q]) → w = d ∨ w = p ∨ w = q := fun w h => by
          rcases h with e | e
          · left; simpa [hix, nmd, c0, c1] using e
          · right; simpa using e
        have v0 : vlN [p, q] d (s, r0, r1) nm d = nm := by simp [vlN]
        have v1 : vlN [p, q] d (s, r0, r1) nm p = r0 := by simp [vlN, t1]
        have v2 : vlN [p, q] d (s, r0, r1) nm q = r1 := by simp [vlN, t2, hpq]
        have e0 : nmd [p, q] d (hix (s, r0, r1) nm [p, q].length) = d := by simp [hix, nmd, c0, c1]
        rw [e0]
        rcases f x hx with e | e | e <;> rcases f z hz with e' | e' | e' <;> subst e <;> subst e'
        · exact absurd rfl hxz
        · rw [v0, v1]; exact Ne.symm c0
        · rw [v0, v2]; exact Ne.symm c1
        · rw [v0, v1]; exact c0
        · exact absurd rfl hxz
        · rw [v1, v2]; exact h01
        · rw [v0, v2]; exact c1
        · rw [v1, v2]; exact Ne.symm h01
        · exact absurd rfl hxz
  · simp at hl
theorem vl_one {ku : List Nat} {d x : Nat} {c : Cf} {nm : Int32} (hl : ku.length ≤ 2) (hr : hreg ku.length c) (hx : x = nmd ku d (hix c nm ku.length) ∨ x ∈ ku) : vlN ku (nmd ku d (hix c nm ku.length)) c nm x = nm ∨ (vlN ku (nmd ku d (hix c nm ku.length)) c nm x = c.2.1 ∧ c.2.1 ≠ -1) ∨ (vlN ku (nmd ku d (hix c nm ku.length)) c nm x = c.2.2 ∧ c.2.2 ≠ -1) := by
  unfold vlN
  split
  · exact Or.inl rfl
  · rename_i h
    have hx := hx.resolve_left h
    split
    · rename_i h2
      refine Or.inr (Or.inl ⟨rfl, ?_⟩)
      unfold hreg at hr
      rw [if_neg (by omega)] at hr
      split at hr
      · exact hr.1
      · exact hr.1
    · rename_i h2
      refine Or.inr (Or.inr ⟨rfl, ?_⟩)
      have h3 : ¬ ku.length = 0 := fun e => by rw [List.length_eq_zero_iff.mp e] at hx; cases hx
      unfold hreg at hr
      rw [if_neg h3] at hr
      split at hr
      · rename_i h4
        obtain ⟨p, hp⟩ := List.length_eq_one_iff.mp h4
        rw [hp] at hx h2
        simp at hx h2
        exact absurd hx.symm h2
      · exact hr.2.1
