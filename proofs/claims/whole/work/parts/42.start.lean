/-! the start: both constructors, run -/
def shE (a b : Sh) : Bool := match a, b with
  | .inl x, .inl y => decide (x.1 = y.1) && decide (x.2 = y.2)
  | .inr (.inl x), .inr (.inl y) => decide (x.1 = y.1) && decide (x.2 = y.2)
  | .inr (.inr x), .inr (.inr y) => decide (x.1 = y.1) && decide (x.2 = y.2)
  | _, _ => false
theorem shE_ok {a b : Sh} (h : shE a b = true) : a = b := by
  rcases a with ⟨a1, a2⟩ | ⟨a1, a2⟩ | ⟨a1, a2⟩ <;> rcases b with ⟨b1, b2⟩ | ⟨b1, b2⟩ | ⟨b1, b2⟩ <;> simp [shE] at h <;> (obtain ⟨rfl, rfl⟩ := h; rfl)
def lsE : List Sh → List Sh → Bool
  | [], [] => true
  | a :: l, b :: k => shE a b && lsE l k
  | _, _ => false
theorem lsE_ok : ∀ {l k : List Sh}, lsE l k = true → l = k
  | [], [], _ => rfl
  | a :: l, b :: k, h => by
    simp only [lsE, Bool.and_eq_true] at h
    rw [shE_ok h.1, lsE_ok h.2]
  | [], _ :: _, h => by simp [lsE] at h
  | _ :: _, [], h => by simp [lsE] at h
def okE (x : Option (List Sh × Dm)) (k : List Sh) : Bool := match x with
  | some q => lsE q.1 k
  | none => false
theorem okE_ok {x : Option (List Sh × Dm)} {k : List Sh} (h : okE x k = true) : ∃ D, x = some (k, D) := by
  cases x with
  | none => cases h
  | some q => exact ⟨q.2, by rw [← lsE_ok (show lsE q.1 k = true from h)]⟩
def bl11 : List Sf := [some none, some none, some none, some none, some none, some none, some none, some none, some none, some none, none, none, none]
def bl12 : List Sf := [none, some none, some none, none, none, none, some none, none, none, none, none, none, none, none, some none, some none, some none, some none, none, none, none, some none, some none, some none, some none, some none, some none, none, none, some none, some none, some none, some none, none, some none, some none, none, none, none, none, some none, some none, none, none, none, none, some none, none, none, none, none, none, some none, some none, none, none, none, none, none, none, some none, some none, some none, some none, none, none, none, none, none, some none, some none, some none, some none, some none, some none, some none, some none, none, none, none, none]
def I1 : Option (List Sh × Dm) := fc_X11_init 0 [.inr (.inr (11, bl11))] (zr (fun _ _ => 0) 0)
theorem I1_L : okE I1 (LAY.take 281) = true := by decide +kernel
def D1i : Dm := match I1 with
  | some q => q.2
  | none => fun _ _ => 0
theorem I1_eq : I1 = some (LAY.take 281, D1i) := by
  obtain ⟨D, h⟩ := okE_ok I1_L
  rw [h]
  unfold D1i
  rw [h]
def I2 : Option (List Sh × Dm) := fc_X12_init 281 (LAY.take 281 ++ [.inr (.inr (12, bl12))]) (zr D1i 281)
theorem I2_L : okE I2 LAY = true := by decide +kernel
def D0i : Dm := match I2 with
  | some q => q.2
  | none => fun _ _ => 0
theorem I2_eq : I2 = some (LAY, D0i) := by
  obtain ⟨D, h⟩ := okE_ok I2_L
  rw [h]
  unfold D0i
  rw [h]
theorem D0i_0 : D0i 9 0 = 1 := by decide +kernel
theorem D0i_1 : ∀ k, k < 30 → D0i 10 k = -1 := by decide +kernel
theorem D0i_2 : ∀ k, k < 94 → D0i 283 k = D0i 282 k := by decide +kernel
