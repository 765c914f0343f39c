theorem ws_1 : Jvm.Cond.fieldLink RJ0 38 "java/lang/String" "COMPACT_STRINGS" "Z" ∈ tb_w := t_in_ok (by decide +kernel)
theorem ws_2 : Jvm.Cond.fieldLink RJ0 15 "java/lang/String" "coder" "B" ∈ tb_w := t_in_ok (by decide +kernel)
theorem ws_3 : Jvm.Cond.fieldLink RJ0 9 "java/lang/String" "value" "[B" ∈ tb_w := t_in_ok (by decide +kernel)
theorem ws_4 : Jvm.Cond.fieldLink RJ0 1053 "jdk/internal/util/Preconditions" "SIOOBE_FORMATTER" "Ljava/util/function/BiFunction;" ∈ tb_w := t_in_ok (by decide +kernel)
theorem ws_5 : Jvm.Cond.methodLink RJ0 335 yJ0_coder_7d493 ∈ tb_w := t_in_ok (by decide +kernel)
theorem ws_6 : Jvm.Cond.methodLink RJ0 492 yJ0_isLatin1_aae02 ∈ tb_w := t_in_ok (by decide +kernel)
theorem ws_7 : Jvm.Cond.methodLink RJ0 495 yJ1_charAt_3b067 ∈ tb_w := t_in_ok (by decide +kernel)
theorem ws_8 : Jvm.Cond.methodLink RJ1 9 yJ0_checkIndex_df160 ∈ tb_w := t_in_ok (by decide +kernel)
theorem ws_9 : Jvm.Cond.methodLink RJ0 1059 yJ3_checkIndex_8e157 ∈ tb_w := t_in_ok (by decide +kernel)
theorem wt_1 : Jvm.Cond.code yJ0_coder_7d493 cJ0_coder_7d493 1 (some .byte) ∈ tb_w := t_in_ok (by decide +kernel)
theorem wt_2 : Jvm.Cond.code yJ0_isLatin1_aae02 cJ0_isLatin1_aae02 1 (some .boolean) ∈ tb_w := t_in_ok (by decide +kernel)
theorem wt_3 : Jvm.Cond.code yJ1_charAt_3b067 cJ1_charAt_3b067 2 (some .char) ∈ tb_w := t_in_ok (by decide +kernel)
theorem wt_4 : Jvm.Cond.code yJ0_checkIndex_df160 cJ0_checkIndex_df160 2 none ∈ tb_w := t_in_ok (by decide +kernel)
theorem wt_5 : Jvm.Cond.code yJ3_checkIndex_8e157 cJ3_checkIndex_8e157 3 (some .int) ∈ tb_w := t_in_ok (by decide +kernel)
theorem wt_6 : Jvm.Cond.code yJ0_length_8abf5 cJ0_length_8abf5 1 (some .int) ∈ tb_w := t_in_ok (by decide +kernel)
theorem wt_7 : Jvm.Cond.code yJ0_charAt_5068e cJ0_charAt_5068e 2 (some .char) ∈ tb_w := t_in_ok (by decide +kernel)
theorem wu_1 : Jvm.Cond.instanceMethod yJ0_coder_7d493 ∈ tb_w := t_in_ok (by decide +kernel)
theorem wu_2 : Jvm.Cond.instanceMethod yJ0_isLatin1_aae02 ∈ tb_w := t_in_ok (by decide +kernel)
theorem wu_3 : Jvm.Cond.selects RJ0 yJ0_coder_7d493 yJ0_coder_7d493 ∈ tb_w := t_in_ok (by decide +kernel)
theorem wu_4 : Jvm.Cond.selects RJ0 yJ0_isLatin1_aae02 yJ0_isLatin1_aae02 ∈ tb_w := t_in_ok (by decide +kernel)
theorem wu_5 : Jvm.Cond.initialized RJ0 ∈ tb_w := t_in_ok (by decide +kernel)
theorem wu_6 : Jvm.Cond.initialized RJ1 ∈ tb_w := t_in_ok (by decide +kernel)
theorem wu_7 : Jvm.Cond.initialized RJ3 ∈ tb_w := t_in_ok (by decide +kernel)
theorem wu_8 : Jvm.Cond.static yJ1_charAt_3b067 ∈ tb_w := t_in_ok (by decide +kernel)
theorem wu_9 : Jvm.Cond.static yJ0_checkIndex_df160 ∈ tb_w := t_in_ok (by decide +kernel)
theorem wv_1 : Jvm.Cond.static yJ3_checkIndex_8e157 ∈ tb_w := t_in_ok (by decide +kernel)
theorem wv_2 : Jvm.Cond.instanceMethod yJ0_length_8abf5 ∈ tb_w := t_in_ok (by decide +kernel)
theorem wv_3 : Jvm.Cond.instanceMethod yJ0_charAt_5068e ∈ tb_w := t_in_ok (by decide +kernel)
theorem wv_4 : Jvm.Cond.selects RJ0 yJ0_length_8abf5 yJ0_length_8abf5 ∈ tb_w := t_in_ok (by decide +kernel)
theorem wv_5 : Jvm.Cond.selects RJ0 yJ0_charAt_5068e yJ0_charAt_5068e ∈ tb_w := t_in_ok (by decide +kernel)
section StM2
variable {l : Launch} {sA adV : Nat → Nat}
abbrev SMr (f : Nat) : Room := { frames := f, cells := 0, slots := 0, locals := 40 * f }
theorem sFend {s t : State} {H : Heap} {locs : List Loc} (hS : va_S sNo s.heap H locs) (ht : t.heap = H) : va_F sNo s t := hS.F ht
theorem st_coder {j : Nat} (hj : j < m_nS) : Met l yJ0_coder_7d493 (Jvm.Cond.code yJ0_coder_7d493 cJ0_coder_7d493 1 (some .byte) :: tb_w) (SMr 0) (SPc sA adV [.ref (sA j)]) (SQc (some (.int 0))) 0 0 sNo := by
  refine SMet (by decide +kernel) (by simp [lg_sl, Value.category]) ?_
  intro p e s m below meth c ls hx hb hr hlk hml hown hts hl hE
  refine va_gets hx hb hE.2.1 va_S.rf hown (hts _ ws_1) (fun _ h => h) (by decide +kernel) ?_
  refine lv_if_eq (off := 10) hx hb (by decide +kernel) (tgt := 13) rfl (fun z => absurd z (by decide)) (fun _ => ?_)
  refine lv_aload_n (k := 0) hx hb (by decide +kernel) rfl (lv_at hl 0 rfl) ?_
  refine vk_getf hx hb ((hE.1.1 j hj).2.1) va_S.rf hown (hts _ ws_2) (fun _ h => h) (by decide +kernel) ?_
  refine lv_goto (off := 4) hx hb (tgt := 14) (by decide +kernel) rfl ?_
  exact W.zret (ty := .byte) hx hb hr rfl (fun t ht hw => ⟨⟨_, rfl, rfl⟩, sFend va_S.rf ht⟩) (fun q h => by cases h) (by decide +kernel)
theorem st_latin {j : Nat} (hj : j < m_nS) : Met l yJ0_isLatin1_aae02 (Jvm.Cond.code yJ0_isLatin1_aae02 cJ0_isLatin1_aae02 1 (some .boolean) :: tb_w) (SMr 0) (SPc sA adV [.ref (sA j)]) (SQc (some (.int 1))) 0 0 sNo := by
  refine SMet (by decide +kernel) (by simp [lg_sl, Value.category]) ?_
  intro p e s m below meth c ls hx hb hr hlk hml hown hts hl hE
  refine va_gets hx hb hE.2.1 va_S.rf hown (hts _ ws_1) (fun _ h => h) (by decide +kernel) ?_
  refine lv_if_eq (off := 14) hx hb (by decide +kernel) (tgt := 17) rfl (fun z => absurd z (by decide)) (fun _ => ?_)
  refine lv_aload_n (k := 0) hx hb (by decide +kernel) rfl (lv_at hl 0 rfl) ?_
  refine vk_getf hx hb ((hE.1.1 j hj).2.1) va_S.rf hown (hts _ ws_2) (fun _ h => h) (by decide +kernel) ?_
  refine lv_if_ne (off := 7) hx hb (by decide +kernel) (tgt := 17) rfl (fun z => absurd rfl z) (fun _ => ?_)
  refine lv_iconst (n := 1) hx hb (v := 1) (by decide +kernel) rfl ?_
  refine lv_goto (off := 4) hx hb (tgt := 18) (by decide +kernel) rfl ?_
  exact W.zret (ty := .boolean) hx hb hr rfl (fun t ht hw => ⟨⟨_, rfl, rfl⟩, sFend va_S.rf ht⟩) (fun q h => by cases h) (by decide +kernel)
theorem st_pre {i n : Int32} {v : Value} (hv : v = .null ∨ ∃ a, v = .ref a) (h0 : ¬ i < 0) (h1 : i < n) : Met l yJ3_checkIndex_8e157 (Jvm.Cond.code yJ3_checkIndex_8e157 cJ3_checkIndex_8e157 3 (some .int) :: tb_w) (SMr 0) (SPc sA adV [.int i, .int n, v]) (SQc (some (.int i))) 0 0 sNo := by
  refine SMet (by decide +kernel) (by rcases hv with rfl | ⟨a, rfl⟩ <;> simp [lg_sl, Value.category]) ?_
  intro p e s m below meth c ls hx hb hr hlk hml hown hts hl hE
  refine lv_iload_n (k := 0) hx hb (by decide +kernel) rfl (lv_at hl 0 rfl) ?_
  refine lv_if_lt (off := 8) hx hb (by decide +kernel) (tgt := 9) rfl (fun z => absurd z h0) (fun _ => ?_)
  refine lv_iload_n (k := 0) hx hb (by decide +kernel) rfl (lv_at hl 0 rfl) ?_
  refine lv_iload_n (k := 1) hx hb (by decide +kernel) rfl (lv_at hl 1 rfl) ?_
  refine lv_icmp_lt (off := 10) hx hb (by decide +kernel) (tgt := 16) rfl (fun _ => ?_) (fun z => absurd h1 z)
  refine lv_iload_n (k := 0) hx hb (by decide +kernel) rfl (lv_at hl 0 rfl) ?_
  exact W.iret hx hb hr (fun t ht hw => ⟨⟨_, rfl, rfl⟩, sFend va_S.rf ht⟩) (fun q h => by cases h) (by decide +kernel)
theorem st_chk {i n : Int32} (h0 : ¬ i < 0) (h1 : i < n) : Met l yJ0_checkIndex_df160 (Jvm.Cond.code yJ0_checkIndex_df160 cJ0_checkIndex_df160 2 none :: tb_w) (SMr 1) (SPc sA adV [.int i, .int n]) (SQc none) 0 0 sNo := by
  refine SMet (by decide +kernel) (by simp [lg_sl, Value.category]) ?_
  intro p e s m below meth c ls hx hb hr hlk hml hown hts hl hE
  refine lv_iload_n (k := 0) hx hb (by decide +kernel) rfl (lv_at hl 0 rfl) ?_
  refine lv_iload_n (k := 1) hx hb (by decide +kernel) rfl (lv_at hl 1 rfl) ?_
  have key : ∀ v : Value, (v = .null ∨ ∃ a, v = .ref a) → W p l e (SMr 1) s m ([.int i, .int n] : List Value).toArray below meth c s.heap [] 0 0 (MQ below (SQc none) ([.int i, .int n] : List Value).toArray s 0 0 sNo) (F0 m 5 ls [v, .int n, .int i]) := by
    intro v hv
    refine st_back (A := sNo) (v := some (.int i)) (rest := []) (va_runS (bytes := cJ3_checkIndex_8e157) (maxL := 3) (ret := some .int) (As := [.int i, .int n, v]) (rest := []) (own := RJ0) (index := 1059) (n := 3) (nL := 2) ⟨hx, hb, hml, hown, hts⟩ (st_pre (sA := sA) (adV := adV) hv h0 h1) ⟨callB_of _ hts (GoodIn.sub wt_5) rfl rfl rfl (hts _ wu_7) (hts _ ws_9) (by decide +kernel) ⟨by decide, by decide⟩, hts _ wv_1⟩ ⟨SPc.blind, fun U hU hWm => ⟨rfl, hE.call hU hWm va_S.rf⟩⟩ rfl rfl hl.1 rfl (by show 2 * 0 + 0 ≤ 8; decide) (show decode cJ0_checkIndex_df160 5 = .ok (.invokestatic 1059, 3) by decide +kernel) ⟨by decide, by decide⟩) va_S.rf (fun H1 locs1 z1 z2 hS1 => ?_)
    refine lv_pop hx hb (by decide +kernel) rfl ?_
    exact W.vret hx hb hr (fun t ht hw => ⟨⟨_, rfl, rfl⟩, sFend hS1 ht⟩) (fun q h => hS1.2.2 q h) (by decide +kernel)
  rcases hE.2.2 with hz | ⟨t, hz⟩
  · exact va_gets hx hb hz va_S.rf hown (hts _ ws_4) (fun _ h => h) (by decide +kernel) (key _ (Or.inl rfl))
  · exact va_gets hx hb hz va_S.rf hown (hts _ ws_4) (fun _ h => h) (by decide +kernel) (key _ (Or.inr ⟨t, rfl⟩))
theorem st_lat {i : Int32} {j k : Nat} (hj : j < m_nS) (hk : k < m_sl.getD j 0) (hi : i = nI k) : Met l yJ1_charAt_3b067 (Jvm.Cond.code yJ1_charAt_3b067 cJ1_charAt_3b067 2 (some .char) :: tb_w) (SMr 2) (SPc sA adV [.ref (adV j), .int i]) (SQc (some (.int ((((m_sb.getD j []).getD k 0) &&& 255).toUInt32 % 65536).toInt32))) 0 0 sNo := by
  obtain ⟨l1, l2, l3⟩ := sj_1 j hj
  subst hi
  refine SMet (by decide +kernel) (by simp [lg_sl, Value.category]) ?_
  intro p e s m below meth c ls hx hb hr hlk hml hown hts hl hE
  refine lv_iload_n (k := 1) hx hb (by decide +kernel) rfl (lv_at hl 1 rfl) ?_
  refine lv_aload_n (k := 0) hx hb (by decide +kernel) rfl (lv_at hl 0 rfl) ?_
  refine va_tlen hx hb (hE.1.1 j hj).2.2.2 va_S.rf rfl (by decide +kernel) ?_
  refine st_back (A := sNo) (v := none) (rest := []) (va_runS (bytes := cJ0_checkIndex_df160) (maxL := 2) (ret := none) (As := [.int (nI k), .int (Int32.ofNat (m_sl.getD j 0))]) (rest := []) (own := RJ1) (index := 9) (n := 2) (nL := 2) ⟨hx, hb, hml, hown, hts⟩ (st_chk (sA := sA) (adV := adV) (nI_pos (by omega)) (nI_lt hk (by omega))) ⟨callB_of _ hts (GoodIn.sub wt_4) rfl rfl rfl (hts _ wu_5) (hts _ ws_8) (by decide +kernel) ⟨by decide, by decide⟩, hts _ wu_9⟩ ⟨SPc.blind, fun U hU hWm => ⟨rfl, hE.call hU hWm va_S.rf⟩⟩ rfl rfl hl.1 rfl (by show 2 * 0 + 0 ≤ 8; decide) (show decode cJ1_charAt_3b067 3 = .ok (.invokestatic 9, 3) by decide +kernel) ⟨by decide, by decide⟩) va_S.rf (fun H1 locs1 z1 z2 hS1 => ?_)
  refine lv_aload_n (k := 0) hx hb (by decide +kernel) rfl (lv_at hl 0 rfl) ?_
  refine lv_iload_n (k := 1) hx hb (by decide +kernel) rfl (lv_at hl 1 rfl) ?_
  refine va_tb hx hb (hE.1.1 j hj).2.2.2 hS1 (i := nI k) (v := .int ((m_sb.getD j []).getD k 0)) (nI_in hk (by omega)) (by rw [nI_clamp (by omega)]) (by decide +kernel) ?_
  refine lv_sipush (n := 255) hx hb (v := 255) (by decide +kernel) rfl ?_
  refine lv_iand hx hb (by decide +kernel) ?_
  refine lv_i2c hx hb (by decide +kernel) rfl ?_
  exact W.zret (ty := .char) hx hb hr (sj_2 j hj k hk).2 (fun t ht hw => ⟨⟨_, rfl, rfl⟩, sFend hS1 ht⟩) (fun q h => hS1.2.2 q h) (by decide +kernel)
theorem st_len {j : Nat} (hj : j < m_nS) : Met l yJ0_length_8abf5 (Jvm.Cond.code yJ0_length_8abf5 cJ0_length_8abf5 1 (some .int) :: tb_w) (SMr 1) (SPc sA adV [.ref (sA j)]) (SQc (some (.int (Int32.ofNat (m_sl.getD j 0))))) 0 0 sNo := by
  obtain ⟨l1, l2, l3⟩ := sj_1 j hj
  refine SMet (by decide +kernel) (by simp [lg_sl, Value.category]) ?_
  intro p e s m below meth c ls hx hb hr hlk hml hown hts hl hE
  refine lv_aload_n (k := 0) hx hb (by decide +kernel) rfl (lv_at hl 0 rfl) ?_
  refine vk_getf hx hb ((hE.1.1 j hj).2.2.1) va_S.rf hown (hts _ ws_3) (fun _ h => h) (by decide +kernel) ?_
  refine va_tlen hx hb (hE.1.1 j hj).2.2.2 va_S.rf rfl (by decide +kernel) ?_
  refine lv_aload_n (k := 0) hx hb (by decide +kernel) rfl (lv_at hl 0 rfl) ?_
  refine st_back (A := sNo) (v := some (.int 0)) (rest := [.int (Int32.ofNat (m_sl.getD j 0))]) (va_runV (bytes := cJ0_coder_7d493) (maxL := 1) (ret := some .byte) (b := sA j) (As := []) (rest := [.int (Int32.ofNat (m_sl.getD j 0))]) (C := RJ0) (own := RJ0) (index := 335) (n := 0) (nL := 1) ⟨hx, hb, hml, hown, hts⟩ (st_coder (sA := sA) (adV := adV) hj) ⟨callB_of _ hts (GoodIn.sub wt_1) rfl rfl rfl (hts _ wu_5) (hts _ ws_5) (by decide +kernel) ⟨by decide, by decide⟩, hts _ wu_1, hts _ wu_3⟩ ⟨SPc.blind, vk_recv hE.1 hj va_S.rf, fun U hU hWm => ⟨rfl, hE.call hU hWm va_S.rf⟩⟩ rfl rfl hl.1 rfl (by show 2 * 0 + (1 + 0) ≤ 8; decide) (show decode cJ0_length_8abf5 6 = .ok (.invokevirtual 335, 3) by decide +kernel) ⟨by decide, by decide⟩) va_S.rf (fun H1 locs1 z1 z2 hS1 => ?_)
  refine lv_ishr hx hb (by decide +kernel) ?_
  rw [l3]
  exact W.iret hx hb hr (fun t ht hw => ⟨⟨_, rfl, rfl⟩, sFend hS1 ht⟩) (fun q h => hS1.2.2 q h) (by decide +kernel)
theorem st_at {i : Int32} {j k : Nat} (hj : j < m_nS) (hk : k < m_sl.getD j 0) (hi : i = nI k) : Met l yJ0_charAt_5068e (Jvm.Cond.code yJ0_charAt_5068e cJ0_charAt_5068e 2 (some .char) :: tb_w) (SMr 3) (SPc sA adV [.ref (sA j), .int i]) (SQc (some (.int ((((m_sb.getD j []).getD k 0) &&& 255).toUInt32 % 65536).toInt32))) 0 0 sNo := by
  refine SMet (by decide +kernel) (by simp [lg_sl, Value.category]) ?_
  intro p e s m below meth c ls hx hb hr hlk hml hown hts hl hE
  refine lv_aload_n (k := 0) hx hb (by decide +kernel) rfl (lv_at hl 0 rfl) ?_
  refine st_back (A := sNo) (v := some (.int 1)) (rest := []) (va_runV (bytes := cJ0_isLatin1_aae02) (maxL := 1) (ret := some .boolean) (b := sA j) (As := []) (rest := []) (C := RJ0) (own := RJ0) (index := 492) (n := 0) (nL := 2) ⟨hx, hb, hml, hown, hts⟩ (st_latin (sA := sA) (adV := adV) hj) ⟨callB_of _ hts (GoodIn.sub wt_2) rfl rfl rfl (hts _ wu_5) (hts _ ws_6) (by decide +kernel) ⟨by decide, by decide⟩, hts _ wu_2, hts _ wu_4⟩ ⟨SPc.blind, vk_recv hE.1 hj va_S.rf, fun U hU hWm => ⟨rfl, hE.call hU hWm va_S.rf⟩⟩ rfl rfl hl.1 rfl (by show 2 * 0 + 0 ≤ 8; decide) (show decode cJ0_charAt_5068e 1 = .ok (.invokevirtual 492, 3) by decide +kernel) ⟨by decide, by decide⟩) va_S.rf (fun H1 locs1 z1 z2 hS1 => ?_)
  refine lv_if_eq (off := 12) hx hb (by decide +kernel) (tgt := 16) rfl (fun z => absurd z (by decide)) (fun _ => ?_)
  refine lv_aload_n (k := 0) hx hb (by decide +kernel) rfl (lv_at hl 0 rfl) ?_
  refine vk_getf hx hb ((hE.1.1 j hj).2.2.1) hS1 hown (hts _ ws_3) (fun _ h => h) (by decide +kernel) ?_
  refine lv_iload_n (k := 1) hx hb (by decide +kernel) rfl (lv_at hl 1 rfl) ?_
  refine st_back (A := sNo) (v := some (.int ((((m_sb.getD j []).getD k 0) &&& 255).toUInt32 % 65536).toInt32)) (rest := []) (va_runS (bytes := cJ1_charAt_3b067) (maxL := 2) (ret := some .char) (As := [.ref (adV j), .int i]) (rest := []) (own := RJ0) (index := 495) (n := 2) (nL := 2) ⟨hx, hb, hml, hown, hts⟩ (st_lat (sA := sA) (adV := adV) hj hk hi) ⟨callB_of _ hts (GoodIn.sub wt_3) rfl rfl rfl (hts _ wu_6) (hts _ ws_7) (by decide +kernel) ⟨by decide, by decide⟩, hts _ wu_8⟩ ⟨SPc.blind, fun U hU hWm => ⟨rfl, hE.call hU hWm hS1⟩⟩ rfl rfl hl.1 rfl (by show 2 * 0 + 0 ≤ 8; decide) (show decode cJ0_charAt_5068e 12 = .ok (.invokestatic 495, 3) by decide +kernel) ⟨by decide, by decide⟩) hS1 (fun H2 locs2 y1 y2 hS2 => ?_)
  exact W.zret (ty := .char) hx hb hr (sj_2 j hj k hk).2 (fun t ht hw => ⟨⟨_, rfl, rfl⟩, sFend hS2 ht⟩) (fun q h => hS2.2.2 q h) (by decide +kernel)
end StM2
