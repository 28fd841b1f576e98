theorem nb_of {ci N : Nat} {ty : Nat → FieldType} {bl : List Sf} (h1 : bl.length = N) (h2 : ∀ j, j < N → (bl[j]? = some none ∧ defaultValue (ty j) = .int 0) ∨ (bl[j]? = some (some none) ∧ defaultValue (ty j) = .null)) : NB ci N ty bl := ⟨h1, fun z j hj => by
  show _ = (List.mapIdx (fun k o => sfv z (fun _ => 0) k o) bl).getD j .null
  rw [List.getD_eq_getElem?_getD, List.getElem?_mapIdx]
  rcases h2 j hj with ⟨a, b⟩ | ⟨a, b⟩ <;> rw [a, b] <;> rfl⟩
theorem nb_0 : NB 0 6 tyX0 [some none, some none, none, some none, some none, some none] := nb_of rfl (by decide +kernel)
theorem nb_1 : NB 1 2 tyX1 [none, some none] := nb_of rfl (by decide +kernel)
theorem nb_2 : NB 2 4 tyX2 [some none, some none, some none, none] := nb_of rfl (by decide +kernel)
theorem nb_3 : NB 3 18 tyX3 [some none, some none, some none, some none, none, some none, some none, some none, some none, some none, some none, some none, some none, none, none, none, none, none] := nb_of rfl (by decide +kernel)
theorem nb_4 : NB 4 7 tyX4 [none, none, none, none, some none, some none, some none] := nb_of rfl (by decide +kernel)
theorem nb_5 : NB 5 5 tyX5 [some none, none, none, none, none] := nb_of rfl (by decide +kernel)
theorem nb_6 : NB 6 11 tyX6 [some none, some none, none, some none, some none, some none, none, some none, some none, some none, none] := nb_of rfl (by decide +kernel)
theorem nb_7 : NB 7 8 tyX7 [some none, none, none, none, none, none, none, none] := nb_of rfl (by decide +kernel)
theorem nb_8 : NB 8 15 tyX8 [some none, some none, some none, some none, some none, some none, some none, some none, some none, some none, some none, some none, some none, none, none] := nb_of rfl (by decide +kernel)
theorem nb_10 : NB 10 5 tyX10 [some none, some none, some none, none, none] := nb_of rfl (by decide +kernel)
theorem nb_11 : NB 11 13 tyX11 [some none, some none, some none, some none, some none, some none, some none, some none, some none, some none, none, none, none] := nb_of rfl (by decide +kernel)
theorem nb_12 : NB 12 81 tyX12 [none, some none, some none, none, none, none, some none, none, none, none, none, none, none, none, some none, some none, some none, some none, none, none, none, some none, some none, some none, some none, some none, some none, none, none, some none, some none, some none, some none, none, some none, some none, none, none, none, none, some none, some none, none, none, none, none, some none, none, none, none, none, none, some none, some none, none, none, none, none, none, none, some none, some none, some none, some none, none, none, none, none, none, some none, some none, some none, some none, some none, some none, some none, some none, none, none, none, none] := nb_of rfl (by decide +kernel)
