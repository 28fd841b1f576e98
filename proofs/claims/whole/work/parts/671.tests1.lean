/-! ===== THE MATH OF TESTS: alike up to names ===== -/
/-- two configurations that stand in one another's stead -/
def Sim (R : Int32 → Int32 → Prop) (c c' : Cf) : Prop := c.1 = c'.1 ∧ R c.2.1 c'.2.1 ∧ R c.2.2 c'.2.2
def Bij (R : Int32 → Int32 → Prop) : Prop := R (-1) (-1) ∧ ∀ x x' y y', R x x' → R y y' → (x = y ↔ x' = y')
theorem sim_step {T : Tb} {R : Int32 → Int32 → Prop} (hR : Bij R) {c c' : Cf} {y n n' : Int32} (hc : Sim R c c') (hn : R n n') : Sim R (step T c (y, n)) (step T c' (y, n')) := by
  obtain ⟨h1, h2, h3⟩ := hc
  unfold step mst
  show Sim R (if c.1 = -1 then c else mgo T.1 T.2.1 T.2.2 c (mslot T.1 c y n) n) (if c'.1 = -1 then c' else mgo T.1 T.2.1 T.2.2 c' (mslot T.1 c' y n') n')
  rw [← h1]
  split
  · exact ⟨h1, h2, h3⟩
  · have e : mslot T.1 c' y n' = mslot T.1 c y n := by
      unfold mslot
      rw [← h1]
      simp only [hR.2 _ _ _ _ h2 hn, hR.2 _ _ _ _ h3 hn]
    rw [e]
    unfold mgo
    split
    · exact ⟨rfl, hR.1, hR.1⟩
    · refine ⟨rfl, ?_, ?_⟩
      · show R (if _ then _ else _) (if _ then _ else _)
        split
        · exact hR.1
        · split
          · exact hn
          · exact h2
      · show R (if _ then _ else _) (if _ then _ else _)
        split
        · exact hR.1
        · split
          · exact hn
          · exact h3
/-- letters that stand in one another's stead -/
def SimW (R : Int32 → Int32 → Prop) : List Lt → List Lt → Prop
  | [], [] => True
  | a :: w, b :: w' => a.1 = b.1 ∧ R a.2 b.2 ∧ SimW R w w'
  | _, _ => False
theorem sim_run {T : Tb} {R : Int32 → Int32 → Prop} (hR : Bij R) : ∀ {w w' : List Lt}, SimW R w w' → ∀ {c c' : Cf}, Sim R c c' → Sim R (run T c w) (run T c' w')
  | [], [], _, _, _, h => h
  | a :: w, b :: w', hw, c, c', h => by
    rw [run_cons, run_cons]
    obtain ⟨e, hn, hw⟩ := hw
    refine sim_run hR hw ?_
    have := sim_step (T := T) hR (y := a.1) h hn
    rw [show b = (a.1, b.2) by rw [e]]
    exact this
  | [], _ :: _, hw, _, _, _ => absurd hw (by simp [SimW])
  | _ :: _, [], hw, _, _, _ => absurd hw (by simp [SimW])
theorem SimW.app {R : Int32 → Int32 → Prop} : ∀ {v v' w w' : List Lt}, SimW R v v' → SimW R w w' → SimW R (v ++ w) (v' ++ w')
  | [], [], _, _, _, h => h
  | a :: v, b :: v', _, _, h1, h2 => ⟨h1.1, h1.2.1, SimW.app h1.2.2 h2⟩
  | [], _ :: _, _, _, hw, _ => absurd hw (by simp [SimW])
  | _ :: _, [], _, _, hw, _ => absurd hw (by simp [SimW])
theorem SimW.map {R : Int32 → Int32 → Prop} {f g : Int32 → Int32} : ∀ {w : List Lt}, (∀ a ∈ w, R (f a.2) (g a.2)) → SimW R (w.map (fun a => (a.1, f a.2))) (w.map (fun a => (a.1, g a.2)))
  | [], _ => trivial
  | a :: w, h => ⟨rfl, h a List.mem_cons_self, SimW.map (fun b hb => h b (List.mem_cons_of_mem _ hb))⟩
theorem tk_sim {R : Int32 → Int32 → Prop} {acc : Int32} {c c' : Cf} (h : Sim R c c') : tk acc c = tk acc c' := by
  unfold tk
  rw [h.1]
/-- a test with its names set -/
def ins (t : List Lt) (ν : Int32 → Int32) : List Lt := t.map (fun a => (a.1, ν a.2))
def ans (T : Tb) (acc : Int32) (c : Cf) (t : List Lt) (ν : Int32 → Int32) : Bool := tk acc (run T c (ins t ν))
theorem ans_sim {T : Tb} {acc : Int32} {R : Int32 → Int32 → Prop} (hR : Bij R) {c c' : Cf} {t : List Lt} {ν ν' : Int32 → Int32} (hc : Sim R c c') (hn : ∀ a ∈ t, R (ν a.2) (ν' a.2)) : ans T acc c t ν = ans T acc c' t ν' :=
  tk_sim (sim_run hR (SimW.map hn) hc)
theorem ins_congr {t : List Lt} {ν ν' : Int32 → Int32} (h : ∀ a ∈ t, ν a.2 = ν' a.2) : ins t ν = ins t ν' := by
  unfold ins
  exact List.map_congr_left (fun a ha => by rw [h a ha])
theorem ans_congr {T : Tb} {acc : Int32} {c : Cf} {t : List Lt} {ν ν' : Int32 → Int32} (h : ∀ a ∈ t, ν a.2 = ν' a.2) : ans T acc c t ν = ans T acc c t ν' := by
  unfold ans
  rw [ins_congr h]
/-- a set of names that a run does not leave -/
theorem run_in {T : Tb} {S : Int32 → Prop} (h1 : S (-1)) : ∀ {w : List Lt} {c : Cf}, (∀ a ∈ w, S a.2) → S c.2.1 ∧ S c.2.2 → S (run T c w).2.1 ∧ S (run T c w).2.2
  | [], c, _, hc => hc
  | a :: w, c, hw, hc => by
    rw [run_cons]
    refine run_in h1 (fun b hb => hw b (List.mem_cons_of_mem _ hb)) ?_
    have ha := hw a List.mem_cons_self
    unfold step mst
    split
    · exact hc
    · unfold mgo
      split
      · exact ⟨h1, h1⟩
      · refine ⟨?_, ?_⟩
        · show S (if _ then _ else _)
          split
          · exact h1
          · split
            · exact ha
            · exact hc.1
        · show S (if _ then _ else _)
          split
          · exact h1
          · split
            · exact ha
            · exact hc.2
/-! instances, as rows of digits: 0 a name that the word has not, g + 1 the one at place g of a row of names -/
def dig (gs : List Nat) (i : Nat) : Nat := gs.getD i 0
/-- the name that digit g at place i is, names of the word being f 0, f 1 .., others q + 0, q + 1 .. -/
def dnm (q : Nat) (f : Nat → Int32) (g i : Nat) : Int32 := if g = 0 then nI (q + i) else f (g - 1)
def nmg (q : Nat) (f : Nat → Int32) (gs : List Nat) : Int32 → Int32 := fun x => dnm q f (dig gs x.toNatClampNeg) x.toNatClampNeg
/-- all rows of d digits up to m behind p, no digit but 0 twice, in their order -/
def insts (m : Nat) (p : List Nat) : Nat → List (List Nat)
  | 0 => [p]
  | d + 1 => insts m (p ++ [0]) d ++ ((List.range m).filter (fun n => !(p.contains (n + 1)))).flatMap (fun n => insts m (p ++ [n + 1]) d)
/-- digits of a number -/
def dgs : Nat → Nat → List Nat
  | 0, _ => []
  | d + 1, q => dgs d (q / 3) ++ [q % 3]
def okD (m : Nat) (gs : List Nat) : Bool := gs.all (fun g => decide (g ≤ m)) && (gs.filter (fun g => decide (g ≠ 0))).Nodup
theorem insts_dgs : ∀ d, d < 4 → ∀ m, m < 3 → insts m [] d = ((List.range (3 ^ d)).map (dgs d)).filter (okD m) := by decide +kernel
