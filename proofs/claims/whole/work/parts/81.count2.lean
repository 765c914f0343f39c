theorem c_count (n : Int) : Call (GX11_count n) (GX12_count n) := by
  intro h H
  obtain ⟨⟨d1, d2, d3, d4, d5, d6, d7⟩, w1, w2, w3, w4, w5, w6, w7⟩ := H.2.2.2.1
  obtain ⟨s1, s2, s3, s4, s5, s6⟩ := H.sh
  obtain ⟨k1, k2, k3, k4, k5, k6, k7⟩ := H.nw
  obtain ⟨r1, r2, r3, r4⟩ := H.2.2.1
  obtain ⟨t1, t2, t3, t4⟩ := H.2.1
  obtain ⟨p1, p2, p3, p4⟩ := H.2.2.2.2.2
  have l1 := lying_all (w := 32) (by decide) (kk_at H.1 38 (by decide)) d3 w1.2.2.1
  have l2 := bags_all (w := 32) (by decide) (kk_at H.1 39 (by decide)) d3 w1.2.2.1
  have l3 := over_ly w1.1 w1.2.2.1
  have l4 := over_bg w1.1 w1.2.2.1
  unfold GX11_count GX12_count
  by_cases c0 : n = 0
  · subst c0
    (repeat (first | with_reducible refine wi_ret ?_ | with_reducible refine wi_bd ?_ | with_reducible refine wi_bv ?_ | with_reducible refine wi_hl ?_ | with_reducible refine wi_jn ?_ | with_reducible refine wi_gn ?_ | (with_reducible refine wi_ib ?_ ?_ ?_; (first | omega | (simp (disch := omega) only [w32_id, rd_eq, rd_ne, cp_in, cp_out, lc_lt, lc_gt, lc_eq] <;> omega)); (first | omega | (simp (disch := omega) only [w32_id, rd_eq, rd_ne, cp_in, cp_out, lc_lt, lc_gt, lc_eq] <;> omega))) | (with_reducible refine wi_ip ?_ ?_; (first | omega | (simp (disch := omega) only [w32_id, rd_eq, rd_ne, cp_in, cp_out, lc_lt, lc_gt, lc_eq] <;> omega))) | (with_reducible refine wi_in ?_ ?_; (first | omega | (simp (disch := omega) only [w32_id, rd_eq, rd_ne, cp_in, cp_out, lc_lt, lc_gt, lc_eq] <;> omega))) | with_reducible refine wv_ret ?_ | with_reducible refine wv_bd ?_ | with_reducible refine wv_bv ?_ | with_reducible refine wv_hl ?_ | with_reducible refine wv_jn ?_ | with_reducible refine wv_gn ?_ | (with_reducible refine wv_ib ?_ ?_ ?_; (first | omega | (simp (disch := omega) only [w32_id, rd_eq, rd_ne, cp_in, cp_out, lc_lt, lc_gt, lc_eq] <;> omega)); (first | omega | (simp (disch := omega) only [w32_id, rd_eq, rd_ne, cp_in, cp_out, lc_lt, lc_gt, lc_eq] <;> omega))) | (with_reducible refine wv_ip ?_ ?_; (first | omega | (simp (disch := omega) only [w32_id, rd_eq, rd_ne, cp_in, cp_out, lc_lt, lc_gt, lc_eq] <;> omega))) | (with_reducible refine wv_in ?_ ?_; (first | omega | (simp (disch := omega) only [w32_id, rd_eq, rd_ne, cp_in, cp_out, lc_lt, lc_gt, lc_eq] <;> omega)))))
    exact ⟨s1, H⟩
  by_cases c1 : n = 1
  · subst c1
    (repeat (first | with_reducible refine wi_ret ?_ | with_reducible refine wi_bd ?_ | with_reducible refine wi_bv ?_ | with_reducible refine wi_hl ?_ | with_reducible refine wi_jn ?_ | with_reducible refine wi_gn ?_ | (with_reducible refine wi_ib ?_ ?_ ?_; (first | omega | (simp (disch := omega) only [w32_id, rd_eq, rd_ne, cp_in, cp_out, lc_lt, lc_gt, lc_eq] <;> omega)); (first | omega | (simp (disch := omega) only [w32_id, rd_eq, rd_ne, cp_in, cp_out, lc_lt, lc_gt, lc_eq] <;> omega))) | (with_reducible refine wi_ip ?_ ?_; (first | omega | (simp (disch := omega) only [w32_id, rd_eq, rd_ne, cp_in, cp_out, lc_lt, lc_gt, lc_eq] <;> omega))) | (with_reducible refine wi_in ?_ ?_; (first | omega | (simp (disch := omega) only [w32_id, rd_eq, rd_ne, cp_in, cp_out, lc_lt, lc_gt, lc_eq] <;> omega))) | with_reducible refine wv_ret ?_ | with_reducible refine wv_bd ?_ | with_reducible refine wv_bv ?_ | with_reducible refine wv_hl ?_ | with_reducible refine wv_jn ?_ | with_reducible refine wv_gn ?_ | (with_reducible refine wv_ib ?_ ?_ ?_; (first | omega | (simp (disch := omega) only [w32_id, rd_eq, rd_ne, cp_in, cp_out, lc_lt, lc_gt, lc_eq] <;> omega)); (first | omega | (simp (disch := omega) only [w32_id, rd_eq, rd_ne, cp_in, cp_out, lc_lt, lc_gt, lc_eq] <;> omega))) | (with_reducible refine wv_ip ?_ ?_; (first | omega | (simp (disch := omega) only [w32_id, rd_eq, rd_ne, cp_in, cp_out, lc_lt, lc_gt, lc_eq] <;> omega))) | (with_reducible refine wv_in ?_ ?_; (first | omega | (simp (disch := omega) only [w32_id, rd_eq, rd_ne, cp_in, cp_out, lc_lt, lc_gt, lc_eq] <;> omega)))))
    exact ⟨s2, H⟩
  by_cases c2 : n = 2
  · subst c2
    (repeat (first | with_reducible refine wi_ret ?_ | with_reducible refine wi_bd ?_ | with_reducible refine wi_bv ?_ | with_reducible refine wi_hl ?_ | with_reducible refine wi_jn ?_ | with_reducible refine wi_gn ?_ | (with_reducible refine wi_ib ?_ ?_ ?_; (first | omega | (simp (disch := omega) only [w32_id, rd_eq, rd_ne, cp_in, cp_out, lc_lt, lc_gt, lc_eq] <;> omega)); (first | omega | (simp (disch := omega) only [w32_id, rd_eq, rd_ne, cp_in, cp_out, lc_lt, lc_gt, lc_eq] <;> omega))) | (with_reducible refine wi_ip ?_ ?_; (first | omega | (simp (disch := omega) only [w32_id, rd_eq, rd_ne, cp_in, cp_out, lc_lt, lc_gt, lc_eq] <;> omega))) | (with_reducible refine wi_in ?_ ?_; (first | omega | (simp (disch := omega) only [w32_id, rd_eq, rd_ne, cp_in, cp_out, lc_lt, lc_gt, lc_eq] <;> omega))) | with_reducible refine wv_ret ?_ | with_reducible refine wv_bd ?_ | with_reducible refine wv_bv ?_ | with_reducible refine wv_hl ?_ | with_reducible refine wv_jn ?_ | with_reducible refine wv_gn ?_ | (with_reducible refine wv_ib ?_ ?_ ?_; (first | omega | (simp (disch := omega) only [w32_id, rd_eq, rd_ne, cp_in, cp_out, lc_lt, lc_gt, lc_eq] <;> omega)); (first | omega | (simp (disch := omega) only [w32_id, rd_eq, rd_ne, cp_in, cp_out, lc_lt, lc_gt, lc_eq] <;> omega))) | (with_reducible refine wv_ip ?_ ?_; (first | omega | (simp (disch := omega) only [w32_id, rd_eq, rd_ne, cp_in, cp_out, lc_lt, lc_gt, lc_eq] <;> omega))) | (with_reducible refine wv_in ?_ ?_; (first | omega | (simp (disch := omega) only [w32_id, rd_eq, rd_ne, cp_in, cp_out, lc_lt, lc_gt, lc_eq] <;> omega)))))
    exact ⟨s3, H⟩
  by_cases c3 : n = 3
  · subst c3
    (repeat (first | with_reducible refine wi_ret ?_ | with_reducible refine wi_bd ?_ | with_reducible refine wi_bv ?_ | with_reducible refine wi_hl ?_ | with_reducible refine wi_jn ?_ | with_reducible refine wi_gn ?_ | (with_reducible refine wi_ib ?_ ?_ ?_; (first | omega | (simp (disch := omega) only [w32_id, rd_eq, rd_ne, cp_in, cp_out, lc_lt, lc_gt, lc_eq] <;> omega)); (first | omega | (simp (disch := omega) only [w32_id, rd_eq, rd_ne, cp_in, cp_out, lc_lt, lc_gt, lc_eq] <;> omega))) | (with_reducible refine wi_ip ?_ ?_; (first | omega | (simp (disch := omega) only [w32_id, rd_eq, rd_ne, cp_in, cp_out, lc_lt, lc_gt, lc_eq] <;> omega))) | (with_reducible refine wi_in ?_ ?_; (first | omega | (simp (disch := omega) only [w32_id, rd_eq, rd_ne, cp_in, cp_out, lc_lt, lc_gt, lc_eq] <;> omega))) | with_reducible refine wv_ret ?_ | with_reducible refine wv_bd ?_ | with_reducible refine wv_bv ?_ | with_reducible refine wv_hl ?_ | with_reducible refine wv_jn ?_ | with_reducible refine wv_gn ?_ | (with_reducible refine wv_ib ?_ ?_ ?_; (first | omega | (simp (disch := omega) only [w32_id, rd_eq, rd_ne, cp_in, cp_out, lc_lt, lc_gt, lc_eq] <;> omega)); (first | omega | (simp (disch := omega) only [w32_id, rd_eq, rd_ne, cp_in, cp_out, lc_lt, lc_gt, lc_eq] <;> omega))) | (with_reducible refine wv_ip ?_ ?_; (first | omega | (simp (disch := omega) only [w32_id, rd_eq, rd_ne, cp_in, cp_out, lc_lt, lc_gt, lc_eq] <;> omega))) | (with_reducible refine wv_in ?_ ?_; (first | omega | (simp (disch := omega) only [w32_id, rd_eq, rd_ne, cp_in, cp_out, lc_lt, lc_gt, lc_eq] <;> omega)))))
    exact ⟨k4.1, H⟩
  by_cases c4 : n = 4
  · subst c4
    (repeat (first | with_reducible refine wi_ret ?_ | with_reducible refine wi_bd ?_ | with_reducible refine wi_bv ?_ | with_reducible refine wi_hl ?_ | with_reducible refine wi_jn ?_ | with_reducible refine wi_gn ?_ | (with_reducible refine wi_ib ?_ ?_ ?_; (first | omega | (simp (disch := omega) only [w32_id, rd_eq, rd_ne, cp_in, cp_out, lc_lt, lc_gt, lc_eq] <;> omega)); (first | omega | (simp (disch := omega) only [w32_id, rd_eq, rd_ne, cp_in, cp_out, lc_lt, lc_gt, lc_eq] <;> omega))) | (with_reducible refine wi_ip ?_ ?_; (first | omega | (simp (disch := omega) only [w32_id, rd_eq, rd_ne, cp_in, cp_out, lc_lt, lc_gt, lc_eq] <;> omega))) | (with_reducible refine wi_in ?_ ?_; (first | omega | (simp (disch := omega) only [w32_id, rd_eq, rd_ne, cp_in, cp_out, lc_lt, lc_gt, lc_eq] <;> omega))) | with_reducible refine wv_ret ?_ | with_reducible refine wv_bd ?_ | with_reducible refine wv_bv ?_ | with_reducible refine wv_hl ?_ | with_reducible refine wv_jn ?_ | with_reducible refine wv_gn ?_ | (with_reducible refine wv_ib ?_ ?_ ?_; (first | omega | (simp (disch := omega) only [w32_id, rd_eq, rd_ne, cp_in, cp_out, lc_lt, lc_gt, lc_eq] <;> omega)); (first | omega | (simp (disch := omega) only [w32_id, rd_eq, rd_ne, cp_in, cp_out, lc_lt, lc_gt, lc_eq] <;> omega))) | (with_reducible refine wv_ip ?_ ?_; (first | omega | (simp (disch := omega) only [w32_id, rd_eq, rd_ne, cp_in, cp_out, lc_lt, lc_gt, lc_eq] <;> omega))) | (with_reducible refine wv_in ?_ ?_; (first | omega | (simp (disch := omega) only [w32_id, rd_eq, rd_ne, cp_in, cp_out, lc_lt, lc_gt, lc_eq] <;> omega)))))
    exact ⟨k3, H⟩
  by_cases c5 : n = 5
  · subst c5
    (repeat (first | with_reducible refine wi_ret ?_ | with_reducible refine wi_bd ?_ | with_reducible refine wi_bv ?_ | with_reducible refine wi_hl ?_ | with_reducible refine wi_jn ?_ | with_reducible refine wi_gn ?_ | (with_reducible refine wi_ib ?_ ?_ ?_; (first | omega | (simp (disch := omega) only [w32_id, rd_eq, rd_ne, cp_in, cp_out, lc_lt, lc_gt, lc_eq] <;> omega)); (first | omega | (simp (disch := omega) only [w32_id, rd_eq, rd_ne, cp_in, cp_out, lc_lt, lc_gt, lc_eq] <;> omega))) | (with_reducible refine wi_ip ?_ ?_; (first | omega | (simp (disch := omega) only [w32_id, rd_eq, rd_ne, cp_in, cp_out, lc_lt, lc_gt, lc_eq] <;> omega))) | (with_reducible refine wi_in ?_ ?_; (first | omega | (simp (disch := omega) only [w32_id, rd_eq, rd_ne, cp_in, cp_out, lc_lt, lc_gt, lc_eq] <;> omega))) | with_reducible refine wv_ret ?_ | with_reducible refine wv_bd ?_ | with_reducible refine wv_bv ?_ | with_reducible refine wv_hl ?_ | with_reducible refine wv_jn ?_ | with_reducible refine wv_gn ?_ | (with_reducible refine wv_ib ?_ ?_ ?_; (first | omega | (simp (disch := omega) only [w32_id, rd_eq, rd_ne, cp_in, cp_out, lc_lt, lc_gt, lc_eq] <;> omega)); (first | omega | (simp (disch := omega) only [w32_id, rd_eq, rd_ne, cp_in, cp_out, lc_lt, lc_gt, lc_eq] <;> omega))) | (with_reducible refine wv_ip ?_ ?_; (first | omega | (simp (disch := omega) only [w32_id, rd_eq, rd_ne, cp_in, cp_out, lc_lt, lc_gt, lc_eq] <;> omega))) | (with_reducible refine wv_in ?_ ?_; (first | omega | (simp (disch := omega) only [w32_id, rd_eq, rd_ne, cp_in, cp_out, lc_lt, lc_gt, lc_eq] <;> omega)))))
    exact ⟨r1, H⟩
  by_cases c6 : n = 6
  · subst c6
    (repeat (first | with_reducible refine wi_ret ?_ | with_reducible refine wi_bd ?_ | with_reducible refine wi_bv ?_ | with_reducible refine wi_hl ?_ | with_reducible refine wi_jn ?_ | with_reducible refine wi_gn ?_ | (with_reducible refine wi_ib ?_ ?_ ?_; (first | omega | (simp (disch := omega) only [w32_id, rd_eq, rd_ne, cp_in, cp_out, lc_lt, lc_gt, lc_eq] <;> omega)); (first | omega | (simp (disch := omega) only [w32_id, rd_eq, rd_ne, cp_in, cp_out, lc_lt, lc_gt, lc_eq] <;> omega))) | (with_reducible refine wi_ip ?_ ?_; (first | omega | (simp (disch := omega) only [w32_id, rd_eq, rd_ne, cp_in, cp_out, lc_lt, lc_gt, lc_eq] <;> omega))) | (with_reducible refine wi_in ?_ ?_; (first | omega | (simp (disch := omega) only [w32_id, rd_eq, rd_ne, cp_in, cp_out, lc_lt, lc_gt, lc_eq] <;> omega))) | with_reducible refine wv_ret ?_ | with_reducible refine wv_bd ?_ | with_reducible refine wv_bv ?_ | with_reducible refine wv_hl ?_ | with_reducible refine wv_jn ?_ | with_reducible refine wv_gn ?_ | (with_reducible refine wv_ib ?_ ?_ ?_; (first | omega | (simp (disch := omega) only [w32_id, rd_eq, rd_ne, cp_in, cp_out, lc_lt, lc_gt, lc_eq] <;> omega)); (first | omega | (simp (disch := omega) only [w32_id, rd_eq, rd_ne, cp_in, cp_out, lc_lt, lc_gt, lc_eq] <;> omega))) | (with_reducible refine wv_ip ?_ ?_; (first | omega | (simp (disch := omega) only [w32_id, rd_eq, rd_ne, cp_in, cp_out, lc_lt, lc_gt, lc_eq] <;> omega))) | (with_reducible refine wv_in ?_ ?_; (first | omega | (simp (disch := omega) only [w32_id, rd_eq, rd_ne, cp_in, cp_out, lc_lt, lc_gt, lc_eq] <;> omega)))))
    exact ⟨d4, H⟩
  by_cases c7 : n = 7
  · subst c7
    (repeat (first | with_reducible refine wi_ret ?_ | with_reducible refine wi_bd ?_ | with_reducible refine wi_bv ?_ | with_reducible refine wi_hl ?_ | with_reducible refine wi_jn ?_ | with_reducible refine wi_gn ?_ | (with_reducible refine wi_ib ?_ ?_ ?_; (first | omega | (simp (disch := omega) only [w32_id, rd_eq, rd_ne, cp_in, cp_out, lc_lt, lc_gt, lc_eq] <;> omega)); (first | omega | (simp (disch := omega) only [w32_id, rd_eq, rd_ne, cp_in, cp_out, lc_lt, lc_gt, lc_eq] <;> omega))) | (with_reducible refine wi_ip ?_ ?_; (first | omega | (simp (disch := omega) only [w32_id, rd_eq, rd_ne, cp_in, cp_out, lc_lt, lc_gt, lc_eq] <;> omega))) | (with_reducible refine wi_in ?_ ?_; (first | omega | (simp (disch := omega) only [w32_id, rd_eq, rd_ne, cp_in, cp_out, lc_lt, lc_gt, lc_eq] <;> omega))) | with_reducible refine wv_ret ?_ | with_reducible refine wv_bd ?_ | with_reducible refine wv_bv ?_ | with_reducible refine wv_hl ?_ | with_reducible refine wv_jn ?_ | with_reducible refine wv_gn ?_ | (with_reducible refine wv_ib ?_ ?_ ?_; (first | omega | (simp (disch := omega) only [w32_id, rd_eq, rd_ne, cp_in, cp_out, lc_lt, lc_gt, lc_eq] <;> omega)); (first | omega | (simp (disch := omega) only [w32_id, rd_eq, rd_ne, cp_in, cp_out, lc_lt, lc_gt, lc_eq] <;> omega))) | (with_reducible refine wv_ip ?_ ?_; (first | omega | (simp (disch := omega) only [w32_id, rd_eq, rd_ne, cp_in, cp_out, lc_lt, lc_gt, lc_eq] <;> omega))) | (with_reducible refine wv_in ?_ ?_; (first | omega | (simp (disch := omega) only [w32_id, rd_eq, rd_ne, cp_in, cp_out, lc_lt, lc_gt, lc_eq] <;> omega)))))
    exact ⟨k1, H⟩
  by_cases c8 : n = 8
  · subst c8
    rw [l1]
    (repeat (first | with_reducible refine wi_ret ?_ | with_reducible refine wi_bd ?_ | with_reducible refine wi_bv ?_ | with_reducible refine wi_hl ?_ | with_reducible refine wi_jn ?_ | with_reducible refine wi_gn ?_ | (with_reducible refine wi_ib ?_ ?_ ?_; (first | omega | (simp (disch := omega) only [w32_id, rd_eq, rd_ne, cp_in, cp_out, lc_lt, lc_gt, lc_eq] <;> omega)); (first | omega | (simp (disch := omega) only [w32_id, rd_eq, rd_ne, cp_in, cp_out, lc_lt, lc_gt, lc_eq] <;> omega))) | (with_reducible refine wi_ip ?_ ?_; (first | omega | (simp (disch := omega) only [w32_id, rd_eq, rd_ne, cp_in, cp_out, lc_lt, lc_gt, lc_eq] <;> omega))) | (with_reducible refine wi_in ?_ ?_; (first | omega | (simp (disch := omega) only [w32_id, rd_eq, rd_ne, cp_in, cp_out, lc_lt, lc_gt, lc_eq] <;> omega))) | with_reducible refine wv_ret ?_ | with_reducible refine wv_bd ?_ | with_reducible refine wv_bv ?_ | with_reducible refine wv_hl ?_ | with_reducible refine wv_jn ?_ | with_reducible refine wv_gn ?_ | (with_reducible refine wv_ib ?_ ?_ ?_; (first | omega | (simp (disch := omega) only [w32_id, rd_eq, rd_ne, cp_in, cp_out, lc_lt, lc_gt, lc_eq] <;> omega)); (first | omega | (simp (disch := omega) only [w32_id, rd_eq, rd_ne, cp_in, cp_out, lc_lt, lc_gt, lc_eq] <;> omega))) | (with_reducible refine wv_ip ?_ ?_; (first | omega | (simp (disch := omega) only [w32_id, rd_eq, rd_ne, cp_in, cp_out, lc_lt, lc_gt, lc_eq] <;> omega))) | (with_reducible refine wv_in ?_ ?_; (first | omega | (simp (disch := omega) only [w32_id, rd_eq, rd_ne, cp_in, cp_out, lc_lt, lc_gt, lc_eq] <;> omega)))))
    rw [l3]
    (repeat (first | with_reducible refine wi_ret ?_ | with_reducible refine wi_bd ?_ | with_reducible refine wi_bv ?_ | with_reducible refine wi_hl ?_ | with_reducible refine wi_jn ?_ | with_reducible refine wi_gn ?_ | (with_reducible refine wi_ib ?_ ?_ ?_; (first | omega | (simp (disch := omega) only [w32_id, rd_eq, rd_ne, cp_in, cp_out, lc_lt, lc_gt, lc_eq] <;> omega)); (first | omega | (simp (disch := omega) only [w32_id, rd_eq, rd_ne, cp_in, cp_out, lc_lt, lc_gt, lc_eq] <;> omega))) | (with_reducible refine wi_ip ?_ ?_; (first | omega | (simp (disch := omega) only [w32_id, rd_eq, rd_ne, cp_in, cp_out, lc_lt, lc_gt, lc_eq] <;> omega))) | (with_reducible refine wi_in ?_ ?_; (first | omega | (simp (disch := omega) only [w32_id, rd_eq, rd_ne, cp_in, cp_out, lc_lt, lc_gt, lc_eq] <;> omega))) | with_reducible refine wv_ret ?_ | with_reducible refine wv_bd ?_ | with_reducible refine wv_bv ?_ | with_reducible refine wv_hl ?_ | with_reducible refine wv_jn ?_ | with_reducible refine wv_gn ?_ | (with_reducible refine wv_ib ?_ ?_ ?_; (first | omega | (simp (disch := omega) only [w32_id, rd_eq, rd_ne, cp_in, cp_out, lc_lt, lc_gt, lc_eq] <;> omega)); (first | omega | (simp (disch := omega) only [w32_id, rd_eq, rd_ne, cp_in, cp_out, lc_lt, lc_gt, lc_eq] <;> omega))) | (with_reducible refine wv_ip ?_ ?_; (first | omega | (simp (disch := omega) only [w32_id, rd_eq, rd_ne, cp_in, cp_out, lc_lt, lc_gt, lc_eq] <;> omega))) | (with_reducible refine wv_in ?_ ?_; (first | omega | (simp (disch := omega) only [w32_id, rd_eq, rd_ne, cp_in, cp_out, lc_lt, lc_gt, lc_eq] <;> omega)))))
    exact ⟨rfl, H⟩
  by_cases c9 : n = 9
  · subst c9
    rw [l2]
    (repeat (first | with_reducible refine wi_ret ?_ | with_reducible refine wi_bd ?_ | with_reducible refine wi_bv ?_ | with_reducible refine wi_hl ?_ | with_reducible refine wi_jn ?_ | with_reducible refine wi_gn ?_ | (with_reducible refine wi_ib ?_ ?_ ?_; (first | omega | (simp (disch := omega) only [w32_id, rd_eq, rd_ne, cp_in, cp_out, lc_lt, lc_gt, lc_eq] <;> omega)); (first | omega | (simp (disch := omega) only [w32_id, rd_eq, rd_ne, cp_in, cp_out, lc_lt, lc_gt, lc_eq] <;> omega))) | (with_reducible refine wi_ip ?_ ?_; (first | omega | (simp (disch := omega) only [w32_id, rd_eq, rd_ne, cp_in, cp_out, lc_lt, lc_gt, lc_eq] <;> omega))) | (with_reducible refine wi_in ?_ ?_; (first | omega | (simp (disch := omega) only [w32_id, rd_eq, rd_ne, cp_in, cp_out, lc_lt, lc_gt, lc_eq] <;> omega))) | with_reducible refine wv_ret ?_ | with_reducible refine wv_bd ?_ | with_reducible refine wv_bv ?_ | with_reducible refine wv_hl ?_ | with_reducible refine wv_jn ?_ | with_reducible refine wv_gn ?_ | (with_reducible refine wv_ib ?_ ?_ ?_; (first | omega | (simp (disch := omega) only [w32_id, rd_eq, rd_ne, cp_in, cp_out, lc_lt, lc_gt, lc_eq] <;> omega)); (first | omega | (simp (disch := omega) only [w32_id, rd_eq, rd_ne, cp_in, cp_out, lc_lt, lc_gt, lc_eq] <;> omega))) | (with_reducible refine wv_ip ?_ ?_; (first | omega | (simp (disch := omega) only [w32_id, rd_eq, rd_ne, cp_in, cp_out, lc_lt, lc_gt, lc_eq] <;> omega))) | (with_reducible refine wv_in ?_ ?_; (first | omega | (simp (disch := omega) only [w32_id, rd_eq, rd_ne, cp_in, cp_out, lc_lt, lc_gt, lc_eq] <;> omega)))))
    rw [l4]
    (repeat (first | with_reducible refine wi_ret ?_ | with_reducible refine wi_bd ?_ | with_reducible refine wi_bv ?_ | with_reducible refine wi_hl ?_ | with_reducible refine wi_jn ?_ | with_reducible refine wi_gn ?_ | (with_reducible refine wi_ib ?_ ?_ ?_; (first | omega | (simp (disch := omega) only [w32_id, rd_eq, rd_ne, cp_in, cp_out, lc_lt, lc_gt, lc_eq] <;> omega)); (first | omega | (simp (disch := omega) only [w32_id, rd_eq, rd_ne, cp_in, cp_out, lc_lt, lc_gt, lc_eq] <;> omega))) | (with_reducible refine wi_ip ?_ ?_; (first | omega | (simp (disch := omega) only [w32_id, rd_eq, rd_ne, cp_in, cp_out, lc_lt, lc_gt, lc_eq] <;> omega))) | (with_reducible refine wi_in ?_ ?_; (first | omega | (simp (disch := omega) only [w32_id, rd_eq, rd_ne, cp_in, cp_out, lc_lt, lc_gt, lc_eq] <;> omega))) | with_reducible refine wv_ret ?_ | with_reducible refine wv_bd ?_ | with_reducible refine wv_bv ?_ | with_reducible refine wv_hl ?_ | with_reducible refine wv_jn ?_ | with_reducible refine wv_gn ?_ | (with_reducible refine wv_ib ?_ ?_ ?_; (first | omega | (simp (disch := omega) only [w32_id, rd_eq, rd_ne, cp_in, cp_out, lc_lt, lc_gt, lc_eq] <;> omega)); (first | omega | (simp (disch := omega) only [w32_id, rd_eq, rd_ne, cp_in, cp_out, lc_lt, lc_gt, lc_eq] <;> omega))) | (with_reducible refine wv_ip ?_ ?_; (first | omega | (simp (disch := omega) only [w32_id, rd_eq, rd_ne, cp_in, cp_out, lc_lt, lc_gt, lc_eq] <;> omega))) | (with_reducible refine wv_in ?_ ?_; (first | omega | (simp (disch := omega) only [w32_id, rd_eq, rd_ne, cp_in, cp_out, lc_lt, lc_gt, lc_eq] <;> omega)))))
    exact ⟨rfl, H⟩
  by_cases c10 : n = 10
  · subst c10
    (repeat (first | with_reducible refine wi_ret ?_ | with_reducible refine wi_bd ?_ | with_reducible refine wi_bv ?_ | with_reducible refine wi_hl ?_ | with_reducible refine wi_jn ?_ | with_reducible refine wi_gn ?_ | (with_reducible refine wi_ib ?_ ?_ ?_; (first | omega | (simp (disch := omega) only [w32_id, rd_eq, rd_ne, cp_in, cp_out, lc_lt, lc_gt, lc_eq] <;> omega)); (first | omega | (simp (disch := omega) only [w32_id, rd_eq, rd_ne, cp_in, cp_out, lc_lt, lc_gt, lc_eq] <;> omega))) | (with_reducible refine wi_ip ?_ ?_; (first | omega | (simp (disch := omega) only [w32_id, rd_eq, rd_ne, cp_in, cp_out, lc_lt, lc_gt, lc_eq] <;> omega))) | (with_reducible refine wi_in ?_ ?_; (first | omega | (simp (disch := omega) only [w32_id, rd_eq, rd_ne, cp_in, cp_out, lc_lt, lc_gt, lc_eq] <;> omega))) | with_reducible refine wv_ret ?_ | with_reducible refine wv_bd ?_ | with_reducible refine wv_bv ?_ | with_reducible refine wv_hl ?_ | with_reducible refine wv_jn ?_ | with_reducible refine wv_gn ?_ | (with_reducible refine wv_ib ?_ ?_ ?_; (first | omega | (simp (disch := omega) only [w32_id, rd_eq, rd_ne, cp_in, cp_out, lc_lt, lc_gt, lc_eq] <;> omega)); (first | omega | (simp (disch := omega) only [w32_id, rd_eq, rd_ne, cp_in, cp_out, lc_lt, lc_gt, lc_eq] <;> omega))) | (with_reducible refine wv_ip ?_ ?_; (first | omega | (simp (disch := omega) only [w32_id, rd_eq, rd_ne, cp_in, cp_out, lc_lt, lc_gt, lc_eq] <;> omega))) | (with_reducible refine wv_in ?_ ?_; (first | omega | (simp (disch := omega) only [w32_id, rd_eq, rd_ne, cp_in, cp_out, lc_lt, lc_gt, lc_eq] <;> omega)))))
    exact ⟨k2, H⟩
  by_cases c11 : n = 11
  · subst c11
    (repeat (first | with_reducible refine wi_ret ?_ | with_reducible refine wi_bd ?_ | with_reducible refine wi_bv ?_ | with_reducible refine wi_hl ?_ | with_reducible refine wi_jn ?_ | with_reducible refine wi_gn ?_ | (with_reducible refine wi_ib ?_ ?_ ?_; (first | omega | (simp (disch := omega) only [w32_id, rd_eq, rd_ne, cp_in, cp_out, lc_lt, lc_gt, lc_eq] <;> omega)); (first | omega | (simp (disch := omega) only [w32_id, rd_eq, rd_ne, cp_in, cp_out, lc_lt, lc_gt, lc_eq] <;> omega))) | (with_reducible refine wi_ip ?_ ?_; (first | omega | (simp (disch := omega) only [w32_id, rd_eq, rd_ne, cp_in, cp_out, lc_lt, lc_gt, lc_eq] <;> omega))) | (with_reducible refine wi_in ?_ ?_; (first | omega | (simp (disch := omega) only [w32_id, rd_eq, rd_ne, cp_in, cp_out, lc_lt, lc_gt, lc_eq] <;> omega))) | with_reducible refine wv_ret ?_ | with_reducible refine wv_bd ?_ | with_reducible refine wv_bv ?_ | with_reducible refine wv_hl ?_ | with_reducible refine wv_jn ?_ | with_reducible refine wv_gn ?_ | (with_reducible refine wv_ib ?_ ?_ ?_; (first | omega | (simp (disch := omega) only [w32_id, rd_eq, rd_ne, cp_in, cp_out, lc_lt, lc_gt, lc_eq] <;> omega)); (first | omega | (simp (disch := omega) only [w32_id, rd_eq, rd_ne, cp_in, cp_out, lc_lt, lc_gt, lc_eq] <;> omega))) | (with_reducible refine wv_ip ?_ ?_; (first | omega | (simp (disch := omega) only [w32_id, rd_eq, rd_ne, cp_in, cp_out, lc_lt, lc_gt, lc_eq] <;> omega))) | (with_reducible refine wv_in ?_ ?_; (first | omega | (simp (disch := omega) only [w32_id, rd_eq, rd_ne, cp_in, cp_out, lc_lt, lc_gt, lc_eq] <;> omega)))))
    exact ⟨d6, H⟩
  by_cases c12 : n = 12
  · subst c12
    (repeat (first | with_reducible refine wi_ret ?_ | with_reducible refine wi_bd ?_ | with_reducible refine wi_bv ?_ | with_reducible refine wi_hl ?_ | with_reducible refine wi_jn ?_ | with_reducible refine wi_gn ?_ | (with_reducible refine wi_ib ?_ ?_ ?_; (first | omega | (simp (disch := omega) only [w32_id, rd_eq, rd_ne, cp_in, cp_out, lc_lt, lc_gt, lc_eq] <;> omega)); (first | omega | (simp (disch := omega) only [w32_id, rd_eq, rd_ne, cp_in, cp_out, lc_lt, lc_gt, lc_eq] <;> omega))) | (with_reducible refine wi_ip ?_ ?_; (first | omega | (simp (disch := omega) only [w32_id, rd_eq, rd_ne, cp_in, cp_out, lc_lt, lc_gt, lc_eq] <;> omega))) | (with_reducible refine wi_in ?_ ?_; (first | omega | (simp (disch := omega) only [w32_id, rd_eq, rd_ne, cp_in, cp_out, lc_lt, lc_gt, lc_eq] <;> omega))) | with_reducible refine wv_ret ?_ | with_reducible refine wv_bd ?_ | with_reducible refine wv_bv ?_ | with_reducible refine wv_hl ?_ | with_reducible refine wv_jn ?_ | with_reducible refine wv_gn ?_ | (with_reducible refine wv_ib ?_ ?_ ?_; (first | omega | (simp (disch := omega) only [w32_id, rd_eq, rd_ne, cp_in, cp_out, lc_lt, lc_gt, lc_eq] <;> omega)); (first | omega | (simp (disch := omega) only [w32_id, rd_eq, rd_ne, cp_in, cp_out, lc_lt, lc_gt, lc_eq] <;> omega))) | (with_reducible refine wv_ip ?_ ?_; (first | omega | (simp (disch := omega) only [w32_id, rd_eq, rd_ne, cp_in, cp_out, lc_lt, lc_gt, lc_eq] <;> omega))) | (with_reducible refine wv_in ?_ ?_; (first | omega | (simp (disch := omega) only [w32_id, rd_eq, rd_ne, cp_in, cp_out, lc_lt, lc_gt, lc_eq] <;> omega)))))
    exact ⟨p1, H⟩
  by_cases c13 : n = 13
  · subst c13
    (repeat (first | with_reducible refine wi_ret ?_ | with_reducible refine wi_bd ?_ | with_reducible refine wi_bv ?_ | with_reducible refine wi_hl ?_ | with_reducible refine wi_jn ?_ | with_reducible refine wi_gn ?_ | (with_reducible refine wi_ib ?_ ?_ ?_; (first | omega | (simp (disch := omega) only [w32_id, rd_eq, rd_ne, cp_in, cp_out, lc_lt, lc_gt, lc_eq] <;> omega)); (first | omega | (simp (disch := omega) only [w32_id, rd_eq, rd_ne, cp_in, cp_out, lc_lt, lc_gt, lc_eq] <;> omega))) | (with_reducible refine wi_ip ?_ ?_; (first | omega | (simp (disch := omega) only [w32_id, rd_eq, rd_ne, cp_in, cp_out, lc_lt, lc_gt, lc_eq] <;> omega))) | (with_reducible refine wi_in ?_ ?_; (first | omega | (simp (disch := omega) only [w32_id, rd_eq, rd_ne, cp_in, cp_out, lc_lt, lc_gt, lc_eq] <;> omega))) | with_reducible refine wv_ret ?_ | with_reducible refine wv_bd ?_ | with_reducible refine wv_bv ?_ | with_reducible refine wv_hl ?_ | with_reducible refine wv_jn ?_ | with_reducible refine wv_gn ?_ | (with_reducible refine wv_ib ?_ ?_ ?_; (first | omega | (simp (disch := omega) only [w32_id, rd_eq, rd_ne, cp_in, cp_out, lc_lt, lc_gt, lc_eq] <;> omega)); (first | omega | (simp (disch := omega) only [w32_id, rd_eq, rd_ne, cp_in, cp_out, lc_lt, lc_gt, lc_eq] <;> omega))) | (with_reducible refine wv_ip ?_ ?_; (first | omega | (simp (disch := omega) only [w32_id, rd_eq, rd_ne, cp_in, cp_out, lc_lt, lc_gt, lc_eq] <;> omega))) | (with_reducible refine wv_in ?_ ?_; (first | omega | (simp (disch := omega) only [w32_id, rd_eq, rd_ne, cp_in, cp_out, lc_lt, lc_gt, lc_eq] <;> omega)))))
    exact ⟨d5, H⟩
  by_cases c14 : n = 14
  · subst c14
    (repeat (first | with_reducible refine wi_ret ?_ | with_reducible refine wi_bd ?_ | with_reducible refine wi_bv ?_ | with_reducible refine wi_hl ?_ | with_reducible refine wi_jn ?_ | with_reducible refine wi_gn ?_ | (with_reducible refine wi_ib ?_ ?_ ?_; (first | omega | (simp (disch := omega) only [w32_id, rd_eq, rd_ne, cp_in, cp_out, lc_lt, lc_gt, lc_eq] <;> omega)); (first | omega | (simp (disch := omega) only [w32_id, rd_eq, rd_ne, cp_in, cp_out, lc_lt, lc_gt, lc_eq] <;> omega))) | (with_reducible refine wi_ip ?_ ?_; (first | omega | (simp (disch := omega) only [w32_id, rd_eq, rd_ne, cp_in, cp_out, lc_lt, lc_gt, lc_eq] <;> omega))) | (with_reducible refine wi_in ?_ ?_; (first | omega | (simp (disch := omega) only [w32_id, rd_eq, rd_ne, cp_in, cp_out, lc_lt, lc_gt, lc_eq] <;> omega))) | with_reducible refine wv_ret ?_ | with_reducible refine wv_bd ?_ | with_reducible refine wv_bv ?_ | with_reducible refine wv_hl ?_ | with_reducible refine wv_jn ?_ | with_reducible refine wv_gn ?_ | (with_reducible refine wv_ib ?_ ?_ ?_; (first | omega | (simp (disch := omega) only [w32_id, rd_eq, rd_ne, cp_in, cp_out, lc_lt, lc_gt, lc_eq] <;> omega)); (first | omega | (simp (disch := omega) only [w32_id, rd_eq, rd_ne, cp_in, cp_out, lc_lt, lc_gt, lc_eq] <;> omega))) | (with_reducible refine wv_ip ?_ ?_; (first | omega | (simp (disch := omega) only [w32_id, rd_eq, rd_ne, cp_in, cp_out, lc_lt, lc_gt, lc_eq] <;> omega))) | (with_reducible refine wv_in ?_ ?_; (first | omega | (simp (disch := omega) only [w32_id, rd_eq, rd_ne, cp_in, cp_out, lc_lt, lc_gt, lc_eq] <;> omega)))))
    exact ⟨t1, H⟩
  (repeat (first | with_reducible refine wi_ret ?_ | with_reducible refine wi_bd ?_ | with_reducible refine wi_bv ?_ | with_reducible refine wi_hl ?_ | with_reducible refine wi_jn ?_ | with_reducible refine wi_gn ?_ | (with_reducible refine wi_ib ?_ ?_ ?_; (first | omega | (simp (disch := omega) only [w32_id, rd_eq, rd_ne, cp_in, cp_out, lc_lt, lc_gt, lc_eq] <;> omega)); (first | omega | (simp (disch := omega) only [w32_id, rd_eq, rd_ne, cp_in, cp_out, lc_lt, lc_gt, lc_eq] <;> omega))) | (with_reducible refine wi_ip ?_ ?_; (first | omega | (simp (disch := omega) only [w32_id, rd_eq, rd_ne, cp_in, cp_out, lc_lt, lc_gt, lc_eq] <;> omega))) | (with_reducible refine wi_in ?_ ?_; (first | omega | (simp (disch := omega) only [w32_id, rd_eq, rd_ne, cp_in, cp_out, lc_lt, lc_gt, lc_eq] <;> omega))) | with_reducible refine wv_ret ?_ | with_reducible refine wv_bd ?_ | with_reducible refine wv_bv ?_ | with_reducible refine wv_hl ?_ | with_reducible refine wv_jn ?_ | with_reducible refine wv_gn ?_ | (with_reducible refine wv_ib ?_ ?_ ?_; (first | omega | (simp (disch := omega) only [w32_id, rd_eq, rd_ne, cp_in, cp_out, lc_lt, lc_gt, lc_eq] <;> omega)); (first | omega | (simp (disch := omega) only [w32_id, rd_eq, rd_ne, cp_in, cp_out, lc_lt, lc_gt, lc_eq] <;> omega))) | (with_reducible refine wv_ip ?_ ?_; (first | omega | (simp (disch := omega) only [w32_id, rd_eq, rd_ne, cp_in, cp_out, lc_lt, lc_gt, lc_eq] <;> omega))) | (with_reducible refine wv_in ?_ ?_; (first | omega | (simp (disch := omega) only [w32_id, rd_eq, rd_ne, cp_in, cp_out, lc_lt, lc_gt, lc_eq] <;> omega)))))
  exact ⟨rfl, H⟩
/-! feed -/
def FdC (n : Int) (a j : Int) : Prop := (a = 1 ∧ j = 1) ∨ (a = 2 ∧ n ≤ j)
def FdM (n : Int) (a j : Int) : Prop := (a = 334 ∧ j = 1) ∨ (a = 335 ∧ n ≤ j)
def bt (u k : Int) : Int := if k = 0 then u / 16777216 % 256 else if k = 1 then u / 65536 % 256 else if k = 2 then u / 256 % 256 else u % 256
def I32 (u : Int) : Prop := -2147483648 ≤ u ∧ u ≤ 2147483647
/-- one more number on the class's tape -/
theorem add_more {u : Int} {h0 h : MH} {n : Int} (hu : I32 u) (n0 : 0 ≤ n) (hn : m_rd h 1 1 + 4 ≤ 400) (hm : n ≤ m_rd h 1 1) (F : Fr (FdC n) h0 h) :
    ∃ h', GX9_add u h = some h' ∧ Fr (FdC n) h0 h' ∧ m_rd h' 1 1 = m_rd h 1 1 + 4 ∧ (∀ i, i < m_rd h 1 1 → m_rd h' 2 i = m_rd h 2 i) ∧ ∀ k, 0 ≤ k → k < 4 → m_rd h' 2 (m_rd h 1 1 + k) = bt u k := by
  obtain ⟨h', e, f, e1, b0, b1, b2, b3⟩ := add_ok hu.1 hu.2 (by omega) hn
  refine ⟨h', e, F.tr (f.wk (fun a j z => ?_)), e1, fun i hi => f.rd (by omega), fun k k0 k1 => ?_⟩
  · unfold FdC
    omega
  · unfold bt
    by_cases c0 : k = 0
    · rw [if_pos c0, c0, Int.add_zero]
      exact b0
    by_cases c1 : k = 1
    · rw [if_neg c0, if_pos c1, c1]
      exact b1
    by_cases c2 : k = 2
    · rw [if_neg c0, if_neg c1, if_pos c2, c2]
      exact b2
    · rw [if_neg c0, if_neg c1, if_neg c2, show k = 3 by omega]
      exact b3
theorem four_more {u : Int} {h0 h : MH} {n : Int} (hk : m_kd h 335 = 3) (hu : I32 u) (n0 : 0 ≤ n) (hn : m_rd h 334 1 + 4 ≤ 400) (hm : n ≤ m_rd h 334 1) (F : Fr (FdM n) h0 h) :
    ∃ h', GX12_four u h = some h' ∧ Fr (FdM n) h0 h' ∧ m_rd h' 334 1 = m_rd h 334 1 + 4 ∧ (∀ i, i < m_rd h 334 1 → m_rd h' 335 i = m_rd h 335 i) ∧ (∀ k, 0 ≤ k → k < 4 → m_rd h' 335 (m_rd h 334 1 + k) = (bt u k + 128) % 256 - 128) ∧ m_kd h' 335 = 3 := by
  obtain ⟨h', e, f, e1, b0, b1, b2, b3⟩ := four_ok hk hu.1 hu.2 (by omega) hn
  refine ⟨h', e, F.tr (f.wk (fun a j z => ?_)), e1, fun i hi => f.rd (by omega), fun k k0 k1 => ?_, ?_⟩
  · unfold FdM
    omega
  · unfold bt
    by_cases c0 : k = 0
    · rw [if_pos c0, c0, Int.add_zero]
      exact b0
    by_cases c1 : k = 1
    · rw [if_neg c0, if_pos c1, c1]
      exact b1
    by_cases c2 : k = 2
    · rw [if_neg c0, if_neg c1, if_pos c2, c2]
      exact b2
    · rw [if_neg c0, if_neg c1, if_neg c2, show k = 3 by omega]
      exact b3
  · unfold m_kd
    rw [f.2.1]
    exact hk
theorem bt_b {u k : Int} : 0 ≤ bt u k ∧ bt u k < 256 := by
  unfold bt
  split
  · omega
  split
  · omega
  split <;> omega
theorem c_feed (a1 a2 a3 a4 a5 : Int) (u1 : I32 a1) (u2 : I32 a2) (u3 : I32 a3) (u4 : I32 a4) (u5 : I32 a5) : Call (GX11_feed a1 a2 a3 a4 a5) (GX12_feed a1 a2 a3 a4 a5) := by
  intro h H
  obtain ⟨t1, t2, t3, t4⟩ := H.2.1
  unfold GX11_feed GX12_feed
  rw [w32_id (x := m_rd h 1 1 + 20) (by omega) (by omega)]
  refine wi_it (fun c1 => ?_) (fun c1 => ?_)
  · (repeat (first | with_reducible refine wi_ret ?_ | with_reducible refine wi_bd ?_ | with_reducible refine wi_bv ?_ | with_reducible refine wi_hl ?_ | with_reducible refine wi_jn ?_ | with_reducible refine wi_gn ?_ | (with_reducible refine wi_ib ?_ ?_ ?_; (first | omega | (simp (disch := omega) only [w32_id, rd_eq, rd_ne, cp_in, cp_out, lc_lt, lc_gt, lc_eq] <;> omega)); (first | omega | (simp (disch := omega) only [w32_id, rd_eq, rd_ne, cp_in, cp_out, lc_lt, lc_gt, lc_eq] <;> omega))) | (with_reducible refine wi_ip ?_ ?_; (first | omega | (simp (disch := omega) only [w32_id, rd_eq, rd_ne, cp_in, cp_out, lc_lt, lc_gt, lc_eq] <;> omega))) | (with_reducible refine wi_in ?_ ?_; (first | omega | (simp (disch := omega) only [w32_id, rd_eq, rd_ne, cp_in, cp_out, lc_lt, lc_gt, lc_eq] <;> omega))) | with_reducible refine wv_ret ?_ | with_reducible refine wv_bd ?_ | with_reducible refine wv_bv ?_ | with_reducible refine wv_hl ?_ | with_reducible refine wv_jn ?_ | with_reducible refine wv_gn ?_ | (with_reducible refine wv_ib ?_ ?_ ?_; (first | omega | (simp (disch := omega) only [w32_id, rd_eq, rd_ne, cp_in, cp_out, lc_lt, lc_gt, lc_eq] <;> omega)); (first | omega | (simp (disch := omega) only [w32_id, rd_eq, rd_ne, cp_in, cp_out, lc_lt, lc_gt, lc_eq] <;> omega))) | (with_reducible refine wv_ip ?_ ?_; (first | omega | (simp (disch := omega) only [w32_id, rd_eq, rd_ne, cp_in, cp_out, lc_lt, lc_gt, lc_eq] <;> omega))) | (with_reducible refine wv_in ?_ ?_; (first | omega | (simp (disch := omega) only [w32_id, rd_eq, rd_ne, cp_in, cp_out, lc_lt, lc_gt, lc_eq] <;> omega)))))
    exact ⟨rfl, H⟩
  obtain ⟨g1, e1, F1, s1, o1, b1⟩ := add_more (n := m_rd h 1 1) (h0 := h) (h := h) u1 t2 (by omega) (by omega) Fr.rf
  obtain ⟨g2, e2, F2, s2, o2, b2⟩ := add_more (n := m_rd h 1 1) u2 t2 (by omega) (by omega) F1
  obtain ⟨g3, e3, F3, s3, o3, b3⟩ := add_more (n := m_rd h 1 1) u3 t2 (by omega) (by omega) F2
  obtain ⟨g4, e4, F4, s4, o4, b4⟩ := add_more (n := m_rd h 1 1) u4 t2 (by omega) (by omega) F3
  obtain ⟨g5, e5, F5, s5, o5, b5⟩ := add_more (n := m_rd h 1 1) u5 t2 (by omega) (by omega) F4
  have z1 : m_rd g5 334 1 = m_rd h 1 1 := by
    rw [F5.rd (by unfold FdC; omega)]
    omega
  have z2 : m_kd g5 335 = 3 := by
    unfold m_kd
    rw [F5.2.1]
    have := kk_at H.1 335 (by decide)
    exact congrArg Prod.fst this
  obtain ⟨q1, y1, M1, v1, p1, x1, l1⟩ := four_more (n := m_rd h 1 1) (h0 := g5) (h := g5) z2 u1 t2 (by omega) (by omega) Fr.rf
  obtain ⟨q2, y2, M2, v2, p2, x2, l2⟩ := four_more (n := m_rd h 1 1) l1 u2 t2 (by omega) (by omega) M1
  obtain ⟨q3, y3, M3, v3, p3, x3, l3⟩ := four_more (n := m_rd h 1 1) l2 u3 t2 (by omega) (by omega) M2
  obtain ⟨q4, y4, M4, v4, p4, x4, l4⟩ := four_more (n := m_rd h 1 1) l3 u4 t2 (by omega) (by omega) M3
  obtain ⟨q5, y5, M5, v5, p5, x5, l5⟩ := four_more (n := m_rd h 1 1) l4 u5 t2 (by omega) (by omega) M4
  refine wi_bw e1 (wi_bw e2 (wi_bw e3 (wi_bw e4 (wi_bw e5 (wi_ret ?_)))))
  rw [w32_id (x := m_rd g5 334 1 + 20) (by omega) (by omega)]
  refine wi_in (by omega) (wi_bw y1 (wi_bw y2 (wi_bw y3 (wi_bw y4 (wi_bw y5 (wi_ret ?_))))))
  have fo : ∀ a j, ¬ FdC (m_rd h 1 1) a j → ¬ FdM (m_rd h 1 1) a j → m_rd q5 a j = m_rd h a j := fun a j n1 n2 => by rw [M5.rd n2, F5.rd n1]
  refine ⟨by omega, H.1.cg (M5.1.trans F5.1) (M5.2.1.trans F5.2.1), ⟨?_, ?_, ?_, fun i i0 i1 => ?_⟩, H.2.2.1.cg (M5.1.trans F5.1) (M5.2.1.trans F5.2.1) ?_, H.2.2.2.1.cg ?_, H.2.2.2.2.1.cg ?_, H.2.2.2.2.2.cg ?_⟩
  · have := M5.rd (x := 1) (j := 1) (by unfold FdM; omega)
    omega
  · have := M5.rd (x := 1) (j := 1) (by unfold FdM; omega)
    omega
  · have := M5.rd (x := 1) (j := 1) (by unfold FdM; omega)
    omega
  · have w := M5.rd (x := 1) (j := 1) (by unfold FdM; omega)
    have w2 := M5.rd (x := 2) (j := i) (by unfold FdM; omega)
    rw [w2]
    by_cases k0 : i < m_rd h 1 1
    · rw [F5.rd (by unfold FdC; omega), M5.rd (by unfold FdM; omega), F5.rd (by unfold FdC; omega)]
      exact t4 i i0 k0
    have key : ∃ u k, m_rd g5 2 i = bt u k ∧ m_rd q5 335 i = (bt u k + 128) % 256 - 128 := by
      by_cases c4 : m_rd g4 1 1 ≤ i
      · refine ⟨a5, i - m_rd g4 1 1, ?_, ?_⟩
        · have := b5 (i - m_rd g4 1 1) (by omega) (by omega)
          rwa [show m_rd g4 1 1 + (i - m_rd g4 1 1) = i by omega] at this
        · have := x5 (i - m_rd g4 1 1) (by omega) (by omega)
          rwa [show m_rd q4 334 1 + (i - m_rd g4 1 1) = i by omega] at this
      rw [o5 i (by omega), p5 i (by omega)]
      by_cases c3 : m_rd g3 1 1 ≤ i
      · refine ⟨a4, i - m_rd g3 1 1, ?_, ?_⟩
        · have := b4 (i - m_rd g3 1 1) (by omega) (by omega)
          rwa [show m_rd g3 1 1 + (i - m_rd g3 1 1) = i by omega] at this
        · have := x4 (i - m_rd g3 1 1) (by omega) (by omega)
          rwa [show m_rd q3 334 1 + (i - m_rd g3 1 1) = i by omega] at this
      rw [o4 i (by omega), p4 i (by omega)]
      by_cases c2 : m_rd g2 1 1 ≤ i
      · refine ⟨a3, i - m_rd g2 1 1, ?_, ?_⟩
        · have := b3 (i - m_rd g2 1 1) (by omega) (by omega)
          rwa [show m_rd g2 1 1 + (i - m_rd g2 1 1) = i by omega] at this
        · have := x3 (i - m_rd g2 1 1) (by omega) (by omega)
          rwa [show m_rd q2 334 1 + (i - m_rd g2 1 1) = i by omega] at this
      rw [o3 i (by omega), p3 i (by omega)]
      by_cases c1 : m_rd g1 1 1 ≤ i
      · refine ⟨a2, i - m_rd g1 1 1, ?_, ?_⟩
        · have := b2 (i - m_rd g1 1 1) (by omega) (by omega)
          rwa [show m_rd g1 1 1 + (i - m_rd g1 1 1) = i by omega] at this
        · have := x2 (i - m_rd g1 1 1) (by omega) (by omega)
          rwa [show m_rd q1 334 1 + (i - m_rd g1 1 1) = i by omega] at this
      rw [o2 i (by omega), p2 i (by omega)]
      refine ⟨a1, i - m_rd h 1 1, ?_, ?_⟩
      · have := b1 (i - m_rd h 1 1) (by omega) (by omega)
        rwa [show m_rd h 1 1 + (i - m_rd h 1 1) = i by omega] at this
      · have := x1 (i - m_rd h 1 1) (by omega) (by omega)
        rwa [show m_rd g5 334 1 + (i - m_rd h 1 1) = i by omega] at this
    obtain ⟨u, k, k1, k2⟩ := key
    rw [k1, k2]
    exact ⟨bt_b.1, bt_b.2, rfl⟩
  · intro a j z
    unfold RdR at z
    exact fo a j (by unfold FdC; omega) (by unfold FdM; omega)
  · intro a j z
    unfold RdD at z
    exact fo a j (by unfold FdC; omega) (by unfold FdM; omega)
  · intro a j z
    unfold RdI at z
    exact fo a j (by unfold FdC; omega) (by unfold FdM; omega)
  · intro a j z
    unfold RdP at z
    exact fo a j (by unfold FdC; omega) (by unfold FdM; omega)
