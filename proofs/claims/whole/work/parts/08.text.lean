theorem dJ0_coder_7d493_0 : decode cJ0_coder_7d493 0 = .ok (.getstatic 38, 3) := by decide +kernel
theorem dJ0_coder_7d493_3 : decode cJ0_coder_7d493 3 = .ok (.ifCond .eq 10, 3) := by decide +kernel
theorem dJ0_coder_7d493_6 : decode cJ0_coder_7d493 6 = .ok (.aload_n 0, 1) := by decide +kernel
theorem dJ0_coder_7d493_7 : decode cJ0_coder_7d493 7 = .ok (.getfield 15, 3) := by decide +kernel
theorem dJ0_coder_7d493_10 : decode cJ0_coder_7d493 10 = .ok (.goto 4, 3) := by decide +kernel
theorem dJ0_coder_7d493_13 : decode cJ0_coder_7d493 13 = .ok (.iconst 1, 1) := by decide +kernel
theorem dJ0_coder_7d493_14 : decode cJ0_coder_7d493 14 = .ok (.ireturn, 1) := by decide +kernel
theorem dJ0_isLatin1_aae02_0 : decode cJ0_isLatin1_aae02 0 = .ok (.getstatic 38, 3) := by decide +kernel
theorem dJ0_isLatin1_aae02_3 : decode cJ0_isLatin1_aae02 3 = .ok (.ifCond .eq 14, 3) := by decide +kernel
theorem dJ0_isLatin1_aae02_6 : decode cJ0_isLatin1_aae02 6 = .ok (.aload_n 0, 1) := by decide +kernel
theorem dJ0_isLatin1_aae02_7 : decode cJ0_isLatin1_aae02 7 = .ok (.getfield 15, 3) := by decide +kernel
theorem dJ0_isLatin1_aae02_10 : decode cJ0_isLatin1_aae02 10 = .ok (.ifCond .ne 7, 3) := by decide +kernel
theorem dJ0_isLatin1_aae02_13 : decode cJ0_isLatin1_aae02 13 = .ok (.iconst 1, 1) := by decide +kernel
theorem dJ0_isLatin1_aae02_14 : decode cJ0_isLatin1_aae02 14 = .ok (.goto 4, 3) := by decide +kernel
theorem dJ0_isLatin1_aae02_17 : decode cJ0_isLatin1_aae02 17 = .ok (.iconst 0, 1) := by decide +kernel
theorem dJ0_isLatin1_aae02_18 : decode cJ0_isLatin1_aae02 18 = .ok (.ireturn, 1) := by decide +kernel
theorem dJ0_length_8abf5_0 : decode cJ0_length_8abf5 0 = .ok (.aload_n 0, 1) := by decide +kernel
theorem dJ0_length_8abf5_1 : decode cJ0_length_8abf5 1 = .ok (.getfield 9, 3) := by decide +kernel
theorem dJ0_length_8abf5_4 : decode cJ0_length_8abf5 4 = .ok (.arraylength, 1) := by decide +kernel
theorem dJ0_length_8abf5_5 : decode cJ0_length_8abf5 5 = .ok (.aload_n 0, 1) := by decide +kernel
theorem dJ0_length_8abf5_6 : decode cJ0_length_8abf5 6 = .ok (.invokevirtual 335, 3) := by decide +kernel
theorem dJ0_length_8abf5_9 : decode cJ0_length_8abf5 9 = .ok (.ishr, 1) := by decide +kernel
theorem dJ0_length_8abf5_10 : decode cJ0_length_8abf5 10 = .ok (.ireturn, 1) := by decide +kernel
theorem dJ3_checkIndex_8e157_0 : decode cJ3_checkIndex_8e157 0 = .ok (.iload_n 0, 1) := by decide +kernel
theorem dJ3_checkIndex_8e157_1 : decode cJ3_checkIndex_8e157 1 = .ok (.ifCond .lt 8, 3) := by decide +kernel
theorem dJ3_checkIndex_8e157_4 : decode cJ3_checkIndex_8e157 4 = .ok (.iload_n 0, 1) := by decide +kernel
theorem dJ3_checkIndex_8e157_5 : decode cJ3_checkIndex_8e157 5 = .ok (.iload_n 1, 1) := by decide +kernel
theorem dJ3_checkIndex_8e157_6 : decode cJ3_checkIndex_8e157 6 = .ok (.if_icmp .lt 10, 3) := by decide +kernel
theorem dJ3_checkIndex_8e157_9 : decode cJ3_checkIndex_8e157 9 = .ok (.aload_n 2, 1) := by decide +kernel
theorem dJ3_checkIndex_8e157_10 : decode cJ3_checkIndex_8e157 10 = .ok (.iload_n 0, 1) := by decide +kernel
theorem dJ3_checkIndex_8e157_11 : decode cJ3_checkIndex_8e157 11 = .ok (.iload_n 1, 1) := by decide +kernel
theorem dJ3_checkIndex_8e157_12 : decode cJ3_checkIndex_8e157 12 = .ok (.invokestatic 95, 3) := by decide +kernel
theorem dJ3_checkIndex_8e157_15 : decode cJ3_checkIndex_8e157 15 = .ok (.athrow, 1) := by decide +kernel
theorem dJ3_checkIndex_8e157_16 : decode cJ3_checkIndex_8e157 16 = .ok (.iload_n 0, 1) := by decide +kernel
theorem dJ3_checkIndex_8e157_17 : decode cJ3_checkIndex_8e157 17 = .ok (.ireturn, 1) := by decide +kernel
theorem dJ0_checkIndex_df160_0 : decode cJ0_checkIndex_df160 0 = .ok (.iload_n 0, 1) := by decide +kernel
theorem dJ0_checkIndex_df160_1 : decode cJ0_checkIndex_df160 1 = .ok (.iload_n 1, 1) := by decide +kernel
theorem dJ0_checkIndex_df160_2 : decode cJ0_checkIndex_df160 2 = .ok (.getstatic 1053, 3) := by decide +kernel
theorem dJ0_checkIndex_df160_5 : decode cJ0_checkIndex_df160 5 = .ok (.invokestatic 1059, 3) := by decide +kernel
theorem dJ0_checkIndex_df160_8 : decode cJ0_checkIndex_df160 8 = .ok (.pop, 1) := by decide +kernel
theorem dJ0_checkIndex_df160_9 : decode cJ0_checkIndex_df160 9 = .ok (.return_, 1) := by decide +kernel
theorem dJ1_charAt_3b067_0 : decode cJ1_charAt_3b067 0 = .ok (.iload_n 1, 1) := by decide +kernel
theorem dJ1_charAt_3b067_1 : decode cJ1_charAt_3b067 1 = .ok (.aload_n 0, 1) := by decide +kernel
theorem dJ1_charAt_3b067_2 : decode cJ1_charAt_3b067 2 = .ok (.arraylength, 1) := by decide +kernel
theorem dJ1_charAt_3b067_3 : decode cJ1_charAt_3b067 3 = .ok (.invokestatic 9, 3) := by decide +kernel
theorem dJ1_charAt_3b067_6 : decode cJ1_charAt_3b067 6 = .ok (.aload_n 0, 1) := by decide +kernel
theorem dJ1_charAt_3b067_7 : decode cJ1_charAt_3b067 7 = .ok (.iload_n 1, 1) := by decide +kernel
theorem dJ1_charAt_3b067_8 : decode cJ1_charAt_3b067 8 = .ok (.baload, 1) := by decide +kernel
theorem dJ1_charAt_3b067_9 : decode cJ1_charAt_3b067 9 = .ok (.sipush 255, 3) := by decide +kernel
theorem dJ1_charAt_3b067_12 : decode cJ1_charAt_3b067 12 = .ok (.iand, 1) := by decide +kernel
theorem dJ1_charAt_3b067_13 : decode cJ1_charAt_3b067 13 = .ok (.i2c, 1) := by decide +kernel
theorem dJ1_charAt_3b067_14 : decode cJ1_charAt_3b067 14 = .ok (.ireturn, 1) := by decide +kernel
theorem dJ0_charAt_5068e_0 : decode cJ0_charAt_5068e 0 = .ok (.aload_n 0, 1) := by decide +kernel
theorem dJ0_charAt_5068e_1 : decode cJ0_charAt_5068e 1 = .ok (.invokevirtual 492, 3) := by decide +kernel
theorem dJ0_charAt_5068e_4 : decode cJ0_charAt_5068e 4 = .ok (.ifCond .eq 12, 3) := by decide +kernel
theorem dJ0_charAt_5068e_7 : decode cJ0_charAt_5068e 7 = .ok (.aload_n 0, 1) := by decide +kernel
theorem dJ0_charAt_5068e_8 : decode cJ0_charAt_5068e 8 = .ok (.getfield 9, 3) := by decide +kernel
theorem dJ0_charAt_5068e_11 : decode cJ0_charAt_5068e 11 = .ok (.iload_n 1, 1) := by decide +kernel
theorem dJ0_charAt_5068e_12 : decode cJ0_charAt_5068e 12 = .ok (.invokestatic 495, 3) := by decide +kernel
theorem dJ0_charAt_5068e_15 : decode cJ0_charAt_5068e 15 = .ok (.ireturn, 1) := by decide +kernel
theorem dJ0_charAt_5068e_16 : decode cJ0_charAt_5068e 16 = .ok (.aload_n 0, 1) := by decide +kernel
theorem dJ0_charAt_5068e_17 : decode cJ0_charAt_5068e 17 = .ok (.getfield 9, 3) := by decide +kernel
theorem dJ0_charAt_5068e_20 : decode cJ0_charAt_5068e 20 = .ok (.iload_n 1, 1) := by decide +kernel
theorem dJ0_charAt_5068e_21 : decode cJ0_charAt_5068e 21 = .ok (.invokestatic 498, 3) := by decide +kernel
theorem dJ0_charAt_5068e_24 : decode cJ0_charAt_5068e 24 = .ok (.ireturn, 1) := by decide +kernel
theorem mj_335 : MLV RJ0 335 RJ0 yJ0_coder_7d493 cJ0_coder_7d493 1 (some .byte) 0 := ⟨ww_535, ww_536, ww_537, ww_16, ww_538, rfl, ⟨⟨by decide +kernel, by decide +kernel, by decide +kernel⟩, by decide⟩⟩
theorem mj_492 : MLV RJ0 492 RJ0 yJ0_isLatin1_aae02 cJ0_isLatin1_aae02 1 (some .boolean) 0 := ⟨ww_545, ww_546, ww_547, ww_16, ww_548, rfl, ⟨⟨by decide +kernel, by decide +kernel, by decide +kernel⟩, by decide⟩⟩
theorem mj_495 : MLS RJ0 495 yJ1_charAt_3b067 cJ1_charAt_3b067 2 (some .char) 2 := ⟨ww_549, ww_550, ww_17, ww_551, ⟨⟨by decide +kernel, by decide +kernel, by decide +kernel⟩, by decide⟩⟩
theorem mj_9 : MLS RJ1 9 yJ0_checkIndex_df160 cJ0_checkIndex_df160 2 none 2 := ⟨ww_552, ww_553, ww_16, ww_554, ⟨⟨by decide +kernel, by decide +kernel, by decide +kernel⟩, by decide⟩⟩
theorem mj_1059 : MLS RJ0 1059 yJ3_checkIndex_8e157 cJ3_checkIndex_8e157 3 (some .int) 3 := ⟨ww_557, ww_558, ww_18, ww_559, ⟨⟨by decide +kernel, by decide +kernel, by decide +kernel⟩, by decide⟩⟩
theorem mj_X7_46 : MLV RX7 46 RJ0 yJ0_length_8abf5 cJ0_length_8abf5 1 (some .int) 0 := ⟨ww_531, ww_532, ww_533, ww_16, ww_534, rfl, ⟨⟨by decide +kernel, by decide +kernel, by decide +kernel⟩, by decide⟩⟩
theorem mj_X7_52 : MLV RX7 52 RJ0 yJ0_charAt_5068e cJ0_charAt_5068e 2 (some .char) 1 := ⟨ww_541, ww_542, ww_543, ww_16, ww_544, rfl, ⟨⟨by decide +kernel, by decide +kernel, by decide +kernel⟩, by decide⟩⟩
theorem mj_X12_188 : MLV RX12 188 RJ0 yJ0_length_8abf5 cJ0_length_8abf5 1 (some .int) 0 := ⟨ww_1414, ww_532, ww_533, ww_16, ww_534, rfl, ⟨⟨by decide +kernel, by decide +kernel, by decide +kernel⟩, by decide⟩⟩
theorem mj_X12_193 : MLV RX12 193 RJ0 yJ0_charAt_5068e cJ0_charAt_5068e 2 (some .char) 1 := ⟨ww_1415, ww_542, ww_543, ww_16, ww_544, rfl, ⟨⟨by decide +kernel, by decide +kernel, by decide +kernel⟩, by decide⟩⟩
def slN (k : Nat) : Nat := slen.getD k 0
def slI (k : Nat) : Int32 := Int32.ofNat (slN k)
def sch (k j : Nat) : Int32 := (sbyt.getD k []).getD j 0
theorem sl_shr : ∀ k, k < 14 → slI k >>> ((0 : Int32) &&& 31) = slI k := by decide +kernel
theorem sch_ok : ∀ k, k < 14 → ∀ j, j < slN k → ((sch k j &&& 255).toUInt32 % 65536).toInt32 = sch k j ∧ narrow .char (.int (sch k j)) = .int (sch k j) := by decide +kernel
theorem sl_small : ∀ k, k < 14 → slN k < 100 := by decide +kernel
section TEXTS
variable {p : Program} {l : Launch} {e : Env} {R : Room} {s : State} {m : MethodId} {args : Array Value} {below : List Frame} {meth : Method} {c : Code} {H : Heap} {locs : List Loc} {cells slots : Nat} {Q : State → Prop}
variable {cc : ByteArray} {pc : Nat} {ls : Array Slot} {rest : List Value} {G : va_G} {tA : Nat → ClassId} {z : Nat} {E : Ex} {H0 : Heap} {L : List Sh} {D : Dm} {own : String} {index nL : Nat}
/-- a call on a text -/
theorem h_callT {y : MethodName} {bytes : ByteArray} {mL : Nat} {rt : Option FieldType} {n d k : Nat} {r : Int32} {As st : List Value} (O : Ok G tA z E cc own nL p s m args c) (hH : Hp G tA z L D s.heap H locs) (hk : k < 14) (hM : CtI l y bytes mL rt G tA z E d 0 0 (.ref (E.1 k) :: As) L D r L D) (ml : MLV own index RJ0 y bytes mL rt n) (hn : As.length = n) (hsz : ls.size = nL) (hst : st = As.reverse ++ .ref (E.1 k) :: rest) (hR : d + 1 ≤ R.frames ∧ 64 * (d + 1) ≤ R.locals) (hrest : (rest.map fun v => v.category).sum ≤ 8) (hdg : decode cc pc = .ok (.invokevirtual index, 3))
    (kk : ∀ (H1 : Heap) (locs1 : List Loc), Hp G tA z L D s.heap H1 locs1 → W p l e R s m args below meth c H1 locs1 0 0 Q (F0 m (pc + 3) ls (.int r :: rest))) : W p l e R s m args below meth c H locs 0 0 Q (F0 m pc ls st) := by
  subst hst
  have hts := O.2.2.2.2.1
  refine va_calli (va_runV (As := As) (rest := rest) ⟨O.1, O.2.1, O.2.2.1, O.2.2.2.1, hts⟩ hM (ml.cw hts hR) ⟨Wd_blind, vk_recv O.2.2.2.2.2.2.1.2.2.2.2.1 hk hH.2.2, fun U hU hW => ⟨rfl, hH.wd O hU hW⟩⟩ rfl hn hsz rfl (lv_room hrest) hdg ⟨Nat.zero_le _, Nat.zero_le _⟩) hH.2.2 (fun q _ h => h) (fun q h => h) (fun r1 u t H1 locs1 ht hvm hw hB hz1 hk1 hS => ?_)
  subst hw
  obtain ⟨b1, b2, -, -⟩ := hB
  rw [ht] at b1 b2
  exact kk H1 locs1 ⟨b1, b2, hS⟩
theorem c_coder {k : Nat} (hk : k < 14) : CtI l yJ0_coder_7d493 cJ0_coder_7d493 1 (some .byte) G tA z E 1 0 0 [.ref (E.1 k)] L D 0 L D := by
  refine ct_BI (by decide +kernel) (Nat.le_of_ble_eq_true rfl) ?_
  intro p e s m args below meth c O hr hlk H locs ls hH hl
  obtain ⟨hx, hb, -, hown, hts, -, ⟨-, -, -, -, n5, -, -, -, -, -, n11, -⟩, -⟩ := id O
  have hl : lv_has ls 1 [(0, .ref (E.1 k))] := hl
  refine va_gets hx hb n11 hH.2.2 hown (hts _ ww_539) (fun _ h => h) dJ0_coder_7d493_0 ?_
  refine lv_if_eq (tgt := 13) hx hb dJ0_coder_7d493_3 (by decide) (fun c1 => absurd c1 (by decide)) (fun c1 => ?_)
  refine lv_aload_n hx hb dJ0_coder_7d493_6 rfl (lv_at hl 0 rfl) ?_
  refine vk_getf hx hb (n5.1 k hk).2.1 hH.2.2 hown (hts _ ww_1866) (fun _ h => h) dJ0_coder_7d493_7 ?_
  refine lv_goto (tgt := 14) hx hb dJ0_coder_7d493_10 (by decide) ?_
  exact W.zret hx hb hr rfl (fun t ht hW => ⟨⟨0, (), rfl, rfl, hH.wd O ht hW⟩, hH.2.2.F ht⟩) hH.2.2.2.2 dJ0_coder_7d493_14 hlk
theorem c_isLatin1 {k : Nat} (hk : k < 14) : CtI l yJ0_isLatin1_aae02 cJ0_isLatin1_aae02 1 (some .boolean) G tA z E 1 0 0 [.ref (E.1 k)] L D 1 L D := by
  refine ct_BI (by decide +kernel) (Nat.le_of_ble_eq_true rfl) ?_
  intro p e s m args below meth c O hr hlk H locs ls hH hl
  obtain ⟨hx, hb, -, hown, hts, -, ⟨-, -, -, -, n5, -, -, -, -, -, n11, -⟩, -⟩ := id O
  have hl : lv_has ls 1 [(0, .ref (E.1 k))] := hl
  refine va_gets hx hb n11 hH.2.2 hown (hts _ ww_539) (fun _ h => h) dJ0_isLatin1_aae02_0 ?_
  refine lv_if_eq (tgt := 17) hx hb dJ0_isLatin1_aae02_3 (by decide) (fun c1 => absurd c1 (by decide)) (fun c1 => ?_)
  refine lv_aload_n hx hb dJ0_isLatin1_aae02_6 rfl (lv_at hl 0 rfl) ?_
  refine vk_getf hx hb (n5.1 k hk).2.1 hH.2.2 hown (hts _ ww_1866) (fun _ h => h) dJ0_isLatin1_aae02_7 ?_
  refine lv_if_ne (tgt := 17) hx hb dJ0_isLatin1_aae02_10 (by decide) (fun c1 => absurd rfl c1) (fun c1 => ?_)
  refine lv_iconst (v := 1) hx hb dJ0_isLatin1_aae02_13 (by decide) ?_
  refine lv_goto (tgt := 18) hx hb dJ0_isLatin1_aae02_14 (by decide) ?_
  exact h_zret O hr hlk zb_1 hH dJ0_isLatin1_aae02_18
theorem c_slen {k : Nat} (hk : k < 14) : CtI l yJ0_length_8abf5 cJ0_length_8abf5 1 (some .int) G tA z E 2 0 0 [.ref (E.1 k)] L D (slI k) L D := by
  refine ct_BI (by decide +kernel) (Nat.le_of_ble_eq_true rfl) ?_
  intro p e s m args below meth c O hr hlk H locs ls hH hl
  obtain ⟨hx, hb, -, hown, hts, -, ⟨-, -, -, -, n5, -, -, -, -, -, n11, -⟩, -⟩ := id O
  have hl : lv_has ls 1 [(0, .ref (E.1 k))] := hl
  refine lv_aload_n hx hb dJ0_length_8abf5_0 rfl (lv_at hl 0 rfl) ?_
  refine vk_getf hx hb (n5.1 k hk).2.2.1 hH.2.2 hown (hts _ ww_1865) (fun _ h => h) dJ0_length_8abf5_1 ?_
  refine va_tlen hx hb (n5.1 k hk).2.2.2 hH.2.2 (v := slI k) rfl dJ0_length_8abf5_4 ?_
  refine lv_aload_n hx hb dJ0_length_8abf5_5 rfl (lv_at hl 0 rfl) ?_
  refine h_callT (As := []) (rest := [.int (slI k)]) O hH hk (c_coder hk) mj_335 rfl hl.1 rfl ⟨Nat.le_of_ble_eq_true rfl, Nat.le_of_ble_eq_true rfl⟩ (Nat.le_of_ble_eq_true rfl) dJ0_length_8abf5_6 (fun H locs hH => ?_)
  refine lv_ishr hx hb dJ0_length_8abf5_9 ?_
  rw [sl_shr k hk]
  exact h_iret O hr hlk hH dJ0_length_8abf5_10
theorem c_pre {i n : Int32} {v : Value} (hv : v = .null ∨ ∃ t, v = .ref t) (h1 : ¬ i < 0) (h2 : i < n) : CtI l yJ3_checkIndex_8e157 cJ3_checkIndex_8e157 3 (some .int) G tA z E 1 0 0 [.int i, .int n, v] L D i L D := by
  refine ct_BI (by decide +kernel) (by rcases hv with rfl | ⟨t, rfl⟩ <;> exact Nat.le_of_ble_eq_true rfl) ?_
  intro p e s m args below meth c O hr hlk H locs ls hH hl
  obtain ⟨hx, hb, -, hown, hts, -⟩ := id O
  have hl : lv_has ls 3 [(0, .int i), (1, .int n)] := by
    rcases hv with rfl | ⟨t, rfl⟩
    · exact lv_sub hl [0, 1] rfl
    · exact lv_sub hl [0, 1] rfl
  refine lv_iload_n hx hb dJ3_checkIndex_8e157_0 rfl (lv_at hl 0 rfl) ?_
  refine lv_if_lt (tgt := 9) hx hb dJ3_checkIndex_8e157_1 (by decide) (fun c1 => absurd c1 h1) (fun c1 => ?_)
  refine lv_iload_n hx hb dJ3_checkIndex_8e157_4 rfl (lv_at hl 0 rfl) ?_
  refine lv_iload_n hx hb dJ3_checkIndex_8e157_5 rfl (lv_at hl 1 rfl) ?_
  refine lv_icmp_lt (tgt := 16) hx hb dJ3_checkIndex_8e157_6 (by decide) (fun c2 => ?_) (fun c2 => absurd h2 c2)
  refine lv_iload_n hx hb dJ3_checkIndex_8e157_16 rfl (lv_at hl 0 rfl) ?_
  exact h_iret O hr hlk hH dJ3_checkIndex_8e157_17
theorem c_chk {i n : Int32} (h1 : ¬ i < 0) (h2 : i < n) : CtV l yJ0_checkIndex_df160 cJ0_checkIndex_df160 2 G tA z E 2 0 0 [.int i, .int n] L D L D := by
  refine ct_BV (by decide +kernel) (Nat.le_of_ble_eq_true rfl) ?_
  intro p e s m args below meth c O hr hlk H locs ls hH hl
  obtain ⟨hx, hb, -, hown, hts, -, ⟨-, -, -, -, -, -, -, -, -, -, -, n12⟩, -⟩ := id O
  have hl : lv_has ls 2 [(0, .int i), (1, .int n)] := hl
  refine lv_iload_n hx hb dJ0_checkIndex_df160_0 rfl (lv_at hl 0 rfl) ?_
  refine lv_iload_n hx hb dJ0_checkIndex_df160_1 rfl (lv_at hl 1 rfl) ?_
  rcases n12 with hz | ⟨t, hz⟩
  · refine va_gets hx hb hz hH.2.2 hown (hts _ ww_555) (fun _ h => h) dJ0_checkIndex_df160_2 ?_
    refine h_callSi (As := [.int i, .int n, .null]) (rest := []) O hH (c_pre (Or.inl rfl) h1 h2) mj_1059 rfl hl.1 rfl ⟨Nat.le_of_ble_eq_true rfl, Nat.le_of_ble_eq_true rfl⟩ (Nat.le_of_ble_eq_true rfl) dJ0_checkIndex_df160_5 (fun H locs hH => ?_)
    refine lv_pop hx hb dJ0_checkIndex_df160_8 rfl ?_
    exact h_vret O hr hlk hH dJ0_checkIndex_df160_9
  · refine va_gets hx hb hz hH.2.2 hown (hts _ ww_555) (fun _ h => h) dJ0_checkIndex_df160_2 ?_
    refine h_callSi (As := [.int i, .int n, .ref t]) (rest := []) O hH (c_pre (Or.inr ⟨t, rfl⟩) h1 h2) mj_1059 rfl hl.1 rfl ⟨Nat.le_of_ble_eq_true rfl, Nat.le_of_ble_eq_true rfl⟩ (Nat.le_of_ble_eq_true rfl) dJ0_checkIndex_df160_5 (fun H locs hH => ?_)
    refine lv_pop hx hb dJ0_checkIndex_df160_8 rfl ?_
    exact h_vret O hr hlk hH dJ0_checkIndex_df160_9
theorem inB_lt0 {j : Int32} {n : Nat} (h : inB j n = true) : ¬ j < 0 := fun q => inB_ok h (Or.inl q)
theorem inB_ltI {j : Int32} {n : Nat} (hn : n < 100) (h : inB j n = true) : j < Int32.ofNat n := by
  have h0 := inB_lt0 h
  have h1 := inB_lt h
  have h2 : 0 ≤ j.toInt := by
    have := Int32.le_iff_toInt_le.mp (Int32.not_lt.mp h0)
    simpa using this
  rw [Int32.lt_iff_toInt_lt, Int32.toInt_ofNat_of_lt (by omega)]
  have h3 : j.toNatClampNeg = j.toInt.toNat := rfl
  omega
theorem c_lchr {k : Nat} {j : Int32} (hk : k < 14) (hj : inB j (slN k) = true) : CtI l yJ1_charAt_3b067 cJ1_charAt_3b067 2 (some .char) G tA z E 3 0 0 [.ref (E.2.1 k), .int j] L D (sch k j.toNatClampNeg) L D := by
  refine ct_BI (by decide +kernel) (Nat.le_of_ble_eq_true rfl) ?_
  intro p e s m args below meth c O hr hlk H locs ls hH hl
  obtain ⟨hx, hb, -, hown, hts, -, ⟨-, -, -, -, n5, -, -, -, -, -, n11, -⟩, -⟩ := id O
  have hl : lv_has ls 2 [(0, .ref (E.2.1 k)), (1, .int j)] := hl
  refine lv_iload_n hx hb dJ1_charAt_3b067_0 rfl (lv_at hl 1 rfl) ?_
  refine lv_aload_n hx hb dJ1_charAt_3b067_1 rfl (lv_at hl 0 rfl) ?_
  refine va_tlen hx hb (n5.1 k hk).2.2.2 hH.2.2 (v := slI k) rfl dJ1_charAt_3b067_2 ?_
  refine h_callSv (As := [.int j, .int (slI k)]) (rest := []) O hH (c_chk (inB_lt0 hj) (inB_ltI (sl_small k hk) hj)) mj_9 rfl hl.1 rfl ⟨Nat.le_of_ble_eq_true rfl, Nat.le_of_ble_eq_true rfl⟩ (Nat.le_of_ble_eq_true rfl) dJ1_charAt_3b067_3 (fun H locs hH => ?_)
  refine lv_aload_n hx hb dJ1_charAt_3b067_6 rfl (lv_at hl 0 rfl) ?_
  refine lv_iload_n hx hb dJ1_charAt_3b067_7 rfl (lv_at hl 1 rfl) ?_
  refine va_tb hx hb (n5.1 k hk).2.2.2 hH.2.2 (inB_ok hj) (v := .int (sch k j.toNatClampNeg)) rfl dJ1_charAt_3b067_8 ?_
  refine lv_sipush (v := 255) hx hb dJ1_charAt_3b067_9 (by decide) ?_
  refine lv_iand hx hb dJ1_charAt_3b067_12 ?_
  refine lv_i2c hx hb dJ1_charAt_3b067_13 (sch_ok k hk _ (inB_lt hj)).1 ?_
  exact W.zret hx hb hr (sch_ok k hk _ (inB_lt hj)).2 (fun t ht hW => ⟨⟨_, (), rfl, rfl, hH.wd O ht hW⟩, hH.2.2.F ht⟩) hH.2.2.2.2 dJ1_charAt_3b067_14 hlk
theorem c_schr {k : Nat} {j : Int32} (hk : k < 14) (hj : inB j (slN k) = true) : CtI l yJ0_charAt_5068e cJ0_charAt_5068e 2 (some .char) G tA z E 4 0 0 [.ref (E.1 k), .int j] L D (sch k j.toNatClampNeg) L D := by
  refine ct_BI (by decide +kernel) (Nat.le_of_ble_eq_true rfl) ?_
  intro p e s m args below meth c O hr hlk H locs ls hH hl
  obtain ⟨hx, hb, -, hown, hts, -, ⟨-, -, -, -, n5, -, -, -, -, -, n11, -⟩, -⟩ := id O
  have hl : lv_has ls 2 [(0, .ref (E.1 k)), (1, .int j)] := hl
  refine lv_aload_n hx hb dJ0_charAt_5068e_0 rfl (lv_at hl 0 rfl) ?_
  refine h_callT (As := []) (rest := []) O hH hk (c_isLatin1 hk) mj_492 rfl hl.1 rfl ⟨Nat.le_of_ble_eq_true rfl, Nat.le_of_ble_eq_true rfl⟩ (Nat.le_of_ble_eq_true rfl) dJ0_charAt_5068e_1 (fun H locs hH => ?_)
  refine lv_if_eq (tgt := 16) hx hb dJ0_charAt_5068e_4 (by decide) (fun c1 => absurd c1 (by decide)) (fun c1 => ?_)
  refine lv_aload_n hx hb dJ0_charAt_5068e_7 rfl (lv_at hl 0 rfl) ?_
  refine vk_getf hx hb (n5.1 k hk).2.2.1 hH.2.2 hown (hts _ ww_1865) (fun _ h => h) dJ0_charAt_5068e_8 ?_
  refine lv_iload_n hx hb dJ0_charAt_5068e_11 rfl (lv_at hl 1 rfl) ?_
  refine h_callSi (As := [.ref (E.2.1 k), .int j]) (rest := []) O hH (c_lchr hk hj) mj_495 rfl hl.1 rfl ⟨Nat.le_of_ble_eq_true rfl, Nat.le_of_ble_eq_true rfl⟩ (Nat.le_of_ble_eq_true rfl) dJ0_charAt_5068e_12 (fun H locs hH => ?_)
  exact W.zret hx hb hr (sch_ok k hk _ (inB_lt hj)).2 (fun t ht hW => ⟨⟨_, (), rfl, rfl, hH.wd O ht hW⟩, hH.2.2.F ht⟩) hH.2.2.2.2 dJ0_charAt_5068e_15 hlk
theorem h_slen {k : Nat} (O : Ok G tA z E cc own nL p s m args c) (hH : Hp G tA z L D s.heap H locs) (hsz : ls.size = nL) (hk : k < 14) (ml : MLV own index RJ0 yJ0_length_8abf5 cJ0_length_8abf5 1 (some .int) 0) (hR : 2 + 1 ≤ R.frames ∧ 64 * (2 + 1) ≤ R.locals) (hrest : (rest.map fun v => v.category).sum ≤ 8) (hdg : decode cc pc = .ok (.invokevirtual index, 3))
    (kk : ∀ (H1 : Heap) (locs1 : List Loc), Hp G tA z L D s.heap H1 locs1 → W p l e R s m args below meth c H1 locs1 0 0 Q (F0 m (pc + 3) ls (.int (slI k) :: rest))) : W p l e R s m args below meth c H locs 0 0 Q (F0 m pc ls (.ref (E.1 k) :: rest)) :=
  h_callT (As := []) (rest := rest) O hH hk (c_slen hk) ml rfl hsz rfl hR hrest hdg kk
theorem h_schr {k : Nat} {j : Int32} (O : Ok G tA z E cc own nL p s m args c) (hH : Hp G tA z L D s.heap H locs) (hsz : ls.size = nL) (hk : k < 14) (hj : inB j (slN k) = true) (ml : MLV own index RJ0 yJ0_charAt_5068e cJ0_charAt_5068e 2 (some .char) 1) (hR : 4 + 1 ≤ R.frames ∧ 64 * (4 + 1) ≤ R.locals) (hrest : (rest.map fun v => v.category).sum ≤ 8) (hdg : decode cc pc = .ok (.invokevirtual index, 3))
    (kk : ∀ (H1 : Heap) (locs1 : List Loc), Hp G tA z L D s.heap H1 locs1 → W p l e R s m args below meth c H1 locs1 0 0 Q (F0 m (pc + 3) ls (.int (sch k j.toNatClampNeg) :: rest))) : W p l e R s m args below meth c H locs 0 0 Q (F0 m pc ls (.int j :: .ref (E.1 k) :: rest)) :=
  h_callT (As := [.int j]) (rest := rest) O hH hk (c_schr hk hj) ml rfl hsz rfl hR hrest hdg kk
theorem h_gst0 (O : Ok G tA z E cc RX0 nL p s m args c) (hH : Hp G tA z L D s.heap H locs) (hdg : decode cc pc = .ok (.getstatic 36, 3))
    (kk : W p l e R s m args below meth c H locs cells slots Q (F0 m (pc + 3) ls (.ref E.2.2.1 :: rest))) : W p l e R s m args below meth c H locs cells slots Q (F0 m pc ls rest) :=
  va_getsN O.1 O.2.1 O.2.2.2.2.2.2.1.2.2.2.2.2.2.1 hH.2.2 O.2.2.2.1 (va_Nw.use rfl O.2.2.2.2.2.2.1.2.2.2.1) (fun _ h => h) hdg kk
theorem h_gst1 (O : Ok G tA z E cc RX11 nL p s m args c) (hH : Hp G tA z L D s.heap H locs) (hdg : decode cc pc = .ok (.getstatic 178, 3))
    (kk : W p l e R s m args below meth c H locs cells slots Q (F0 m (pc + 3) ls (.ref E.2.2.2 :: rest))) : W p l e R s m args below meth c H locs cells slots Q (F0 m pc ls rest) :=
  va_gets O.1 O.2.1 O.2.2.2.2.2.2.1.2.2.2.2.2.2.2.2.1 hH.2.2 O.2.2.2.1 (O.2.2.2.2.1 _ ww_779) (fun _ h => h) hdg kk
theorem h_tald0 {j : Int32} (O : Ok G tA z E cc own nL p s m args c) (hH : Hp G tA z L D s.heap H locs) (hin : inB j 4 = true) (hdg : decode cc pc = .ok (.iaload, 1))
    (kk : W p l e R s m args below meth c H locs cells slots Q (F0 m (pc + 1) ls (.int (tab0 j.toNatClampNeg) :: rest))) : W p l e R s m args below meth c H locs cells slots Q (F0 m pc ls (.int j :: .ref E.2.2.1 :: rest)) :=
  va_ti O.1 O.2.1 O.2.2.2.2.2.2.1.2.2.2.2.2.2.2.1 hH.2.2 (inB_ok hin) rfl hdg kk
theorem h_tald1 {j : Int32} (O : Ok G tA z E cc own nL p s m args c) (hH : Hp G tA z L D s.heap H locs) (hin : inB j 6 = true) (hdg : decode cc pc = .ok (.iaload, 1))
    (kk : W p l e R s m args below meth c H locs cells slots Q (F0 m (pc + 1) ls (.int (tab1 j.toNatClampNeg) :: rest))) : W p l e R s m args below meth c H locs cells slots Q (F0 m pc ls (.int j :: .ref E.2.2.2 :: rest)) :=
  va_ti O.1 O.2.1 O.2.2.2.2.2.2.1.2.2.2.2.2.2.2.2.2.1 hH.2.2 (inB_ok hin) rfl hdg kk
end TEXTS
theorem mu_X11_155_4 : MLU RX11 155 RX4 ⟨"WordLearner$Machine", "walk", "(LWordLearner$Going;LWordLearner$Word;I)V"⟩ yX9_walk cX9_walk 5 none 3 := ⟨ww_717, ww_718, ww_720, ww_721, ww_4, ww_722, by decide, by decide +kernel, by decide⟩
theorem mu_X11_283_2 : MLU RX11 283 RX2 ⟨"WordLearner$Hypothesis", "walk", "(LWordLearner$Going;LWordLearner$Word;I)V"⟩ yX9_walk cX9_walk 5 none 3 := ⟨ww_1073, ww_1019, ww_1020, ww_721, ww_4, ww_722, by decide, by decide +kernel, by decide⟩
theorem mu_X3_243_2 : MLU RX3 243 RX2 ⟨"WordLearner$Hypothesis", "walk", "(LWordLearner$Going;LWordLearner$Word;I)V"⟩ yX9_walk cX9_walk 5 none 3 := ⟨ww_1018, ww_1019, ww_1020, ww_721, ww_4, ww_722, by decide, by decide +kernel, by decide⟩
theorem mu_X6_52_4 : MLU RX6 52 RX4 ⟨"WordLearner$Machine", "walk", "(LWordLearner$Going;LWordLearner$Word;I)V"⟩ yX9_walk cX9_walk 5 none 3 := ⟨ww_884, ww_718, ww_720, ww_721, ww_4, ww_722, by decide, by decide +kernel, by decide⟩
theorem mu_X8_77_2 : MLU RX8 77 RX2 ⟨"WordLearner$Walker", "takes", "(LWordLearner$Going;)Z"⟩ yX2_takes cX2_takes 2 (some .boolean) 1 := ⟨ww_816, ww_818, ww_819, ww_820, ww_12, ww_821, by decide, by decide +kernel, by decide⟩
theorem mu_X8_77_4 : MLU RX8 77 RX4 ⟨"WordLearner$Walker", "takes", "(LWordLearner$Going;)Z"⟩ yX4_takes cX4_takes 2 (some .boolean) 1 := ⟨ww_816, ww_818, ww_822, ww_750, ww_5, ww_752, by decide, by decide +kernel, by decide⟩
theorem mu_X8_105_2 : MLU RX8 105 RX2 ⟨"WordLearner$Walker", "advance", "(LWordLearner$Going;II)V"⟩ yX2_advance cX2_advance 7 none 3 := ⟨ww_840, ww_729, ww_730, ww_731, ww_12, ww_732, by decide, by decide +kernel, by decide⟩
theorem mu_X8_105_4 : MLU RX8 105 RX4 ⟨"WordLearner$Walker", "advance", "(LWordLearner$Going;II)V"⟩ yX4_advance cX4_advance 7 none 3 := ⟨ww_840, ww_729, ww_744, ww_745, ww_5, ww_746, by decide, by decide +kernel, by decide⟩
theorem mu_X9_25_2 : MLU RX9 25 RX2 ⟨"WordLearner$Walker", "advance", "(LWordLearner$Going;II)V"⟩ yX2_advance cX2_advance 7 none 3 := ⟨ww_727, ww_729, ww_730, ww_731, ww_12, ww_732, by decide, by decide +kernel, by decide⟩
theorem mu_X9_25_4 : MLU RX9 25 RX4 ⟨"WordLearner$Walker", "advance", "(LWordLearner$Going;II)V"⟩ yX4_advance cX4_advance 7 none 3 := ⟨ww_727, ww_729, ww_744, ww_745, ww_5, ww_746, by decide, by decide +kernel, by decide⟩
