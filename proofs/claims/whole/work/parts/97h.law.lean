/-! THE LAW: all its rounds -/
def OkL (o : Option (Int × MH)) : Prop := ∃ hf, o = some (1, hf) ∧ Inv hf
theorem ok_if {c : Prop} [Decidable c] {a b : Option (Int × MH)} (k1 : c → OkL a) (k2 : ¬ c → OkL b) : OkL (if c then a else b) := by
  by_cases z : c
  · rw [if_pos z]
    exact k1 z
  · rw [if_neg z]
    exact k2 z
theorem ok_call {F G K : MH → Option (Int × MH)} {h : MH} (w : Wi (F h) (fun v h1 => Wi (G h1) (fun w h2 => v = w ∧ Inv h2))) (lF : ∀ r, F h = some r → LR r.2) (lG : ∀ h1 r, LR h1 → G h1 = some r → LR r.2) (hK : ∀ h2, Inv h2 → LR h2 → OkL (K h2)) : OkL (bd (F h) (fun x h1 => bd (G h1) (fun y h2 => if x = y then K h2 else some (0, h2)))) := by
  obtain ⟨v, h1, e1, u, h2, e2, q, I⟩ := w
  have L1 := lF _ e1
  have L2 := lG _ _ L1 e2
  rw [e1, bd_some, e2, bd_some, if_pos q]
  exact hK h2 I L2
theorem gd_one {α : Type} {i L : Int} (i0 : 0 ≤ i) (i1 : i < L) (o : Option α) : gd [IB i L] o = o := by
  rw [gd_ib i0 i1, gd_nil]
theorem law_L {xs : Int → Int} {L : Int} (L0 : 0 ≤ L) (L1 : L ≤ 3072) (hx : ∀ j, -2147483648 ≤ xs j ∧ xs j ≤ 2147483647) : ∀ (m f : Nat) (i : Int) (h : MH), L - i < 6 * (m : Int) + 6 → m < f → 0 ≤ i → i ≤ 3078 → Inv h → LR h → OkL (GL_law xs L GX11_rule f i h) := by
  intro m
  induction m with
  | zero =>
    intro f i h hm hf i0 i1 H hL
    obtain ⟨q, rfl⟩ : ∃ q, f = q + 1 := ⟨f - 1, by omega⟩
    unfold GL_law
    rw [w32_id (x := L - 6) (by omega) (by omega), if_pos (by omega)]
    exact ⟨h, rfl, H⟩
  | succ m ih =>
    intro f i h hm hf i0 i1 H hL
    obtain ⟨q, rfl⟩ : ∃ q, f = q + 1 := ⟨f - 1, by omega⟩
    unfold GL_law
    rw [w32_id (x := L - 6) (by omega) (by omega)]
    by_cases c : L - 6 < i
    · rw [if_pos c]
      exact ⟨h, rfl, H⟩
    rw [if_neg c, gd_one i0 (by omega), w32_id (x := i + 1) (by omega) (by omega), w32_id (x := i + 2) (by omega) (by omega), w32_id (x := i + 3) (by omega) (by omega), w32_id (x := i + 4) (by omega) (by omega), w32_id (x := i + 5) (by omega) (by omega), w32_id (x := i + 6) (by omega) (by omega)]
    have g1 : ∀ o : Option (Int × MH), gd [IB (i + 1) L] o = o := gd_one (by omega) (by omega)
    have g2 : ∀ o : Option (Int × MH), gd [IB (i + 2) L] o = o := gd_one (by omega) (by omega)
    have g3 : ∀ o : Option (Int × MH), gd [IB (i + 3) L] o = o := gd_one (by omega) (by omega)
    have g4 : ∀ o : Option (Int × MH), gd [IB (i + 4) L] o = o := gd_one (by omega) (by omega)
    have g5 : ∀ o : Option (Int × MH), gd [IB (i + 5) L] o = o := gd_one (by omega) (by omega)
    have nx : ∀ h2, Inv h2 → LR h2 → OkL (GL_law xs L GX11_rule q (i + 6) h2) := fun h2 I l => ih q (i + 6) h2 (by omega) (by omega) (by omega) (by omega) I l
    refine ok_if (fun _ => ?_) (fun _ => ?_)
    · simp only [g1, g2, g3, g4, g5]; exact ok_call (c_feed (xs (i + 1)) (xs (i + 2)) (xs (i + 3)) (xs (i + 4)) (xs (i + 5)) (hx _) (hx _) (hx _) (hx _) (hx _) h H) (fun r e => (DX11_feed (xs := xs) (L := L) (d := 0) hL e).2.1) (fun h1 r l e => (DX12_feed (xs := xs) (L := L) (d := 0) l e).2.1) nx
    refine ok_if (fun _ => ?_) (fun _ => ?_)
    · simp only [g1]; exact ok_call (c_end (xs (i + 1)) h H) (fun r e => (DX11_end (xs := xs) (L := L) (d := 0) hL e).2.1) (fun h1 r l e => (DX12_end (xs := xs) (L := L) (d := 0) l e).2.1) nx
    refine ok_if (fun _ => ?_) (fun _ => ?_)
    · exact ok_call (c_frame  h H) (fun r e => (DX11_frame (xs := xs) (L := L) (d := 0) hL e).2.1) (fun h1 r l e => (DX12_frame (xs := xs) (L := L) (d := 0) l e).2.1) nx
    refine ok_if (fun _ => ?_) (fun _ => ?_)
    · exact ok_call (c_rule h H hL) (fun r e => (DX11_rule (xs := xs) (L := L) (d := 0) hL e).2.1) (fun h1 r l e => (DX12_rule (xs := xs) (L := L) (d := 0) l e).2.1) nx
    refine ok_if (fun _ => ?_) (fun _ => ?_)
    · simp only [g1]; exact ok_call (c_force (xs (i + 1)) h H) (fun r e => (DX11_force (xs := xs) (L := L) (d := 0) hL e).2.1) (fun h1 r l e => (DX12_force (xs := xs) (L := L) (d := 0) l e).2.1) nx
    refine ok_if (fun _ => ?_) (fun _ => ?_)
    · simp only [g1, g2]; exact ok_call (c_hole (xs (i + 1)) (xs (i + 2)) h H) (fun r e => (DX11_hole (xs := xs) (L := L) (d := 0) hL e).2.1) (fun h1 r l e => (DX12_hole (xs := xs) (L := L) (d := 0) l e).2.1) nx
    refine ok_if (fun _ => ?_) (fun _ => ?_)
    · simp only [g1, g2]; exact ok_call (c_entry (xs (i + 1)) (xs (i + 2)) h H) (fun r e => (DX11_entry (xs := xs) (L := L) (d := 0) hL e).2.1) (fun h1 r l e => (DX12_entry (xs := xs) (L := L) (d := 0) l e).2.1) nx
    refine ok_if (fun _ => ?_) (fun _ => ?_)
    · simp only [g1]; exact ok_call (c_waits (xs (i + 1)) h H) (fun r e => (DX11_waits (xs := xs) (L := L) (d := 0) hL e).2.1) (fun h1 r l e => (DX12_waits (xs := xs) (L := L) (d := 0) l e).2.1) nx
    refine ok_if (fun _ => ?_) (fun _ => ?_)
    · exact ok_call (c_turn  h H) (fun r e => (DX11_turn (xs := xs) (L := L) (d := 0) hL e).2.1) (fun h1 r l e => (DX12_turn (xs := xs) (L := L) (d := 0) l e).2.1) nx
    refine ok_if (fun _ => ?_) (fun _ => ?_)
    · simp only [g1]; exact ok_call (c_post (xs (i + 1)) h H) (fun r e => (DX11_post (xs := xs) (L := L) (d := 0) hL e).2.1) (fun h1 r l e => (DX12_post (xs := xs) (L := L) (d := 0) l e).2.1) nx
    refine ok_if (fun _ => ?_) (fun _ => ?_)
    · simp only [g1]; exact ok_call (c_tie (xs (i + 1)) h H) (fun r e => (DX11_tie (xs := xs) (L := L) (d := 0) hL e).2.1) (fun h1 r l e => (DX12_tie (xs := xs) (L := L) (d := 0) l e).2.1) nx
    refine ok_if (fun _ => ?_) (fun _ => ?_)
    · simp only [g1, g2, g3]; exact ok_call (c_enter (xs (i + 1)) (xs (i + 2)) (xs (i + 3)) h H) (fun r e => (DX11_enter (xs := xs) (L := L) (d := 0) hL e).2.1) (fun h1 r l e => (DX12_enter (xs := xs) (L := L) (d := 0) l e).2.1) nx
    refine ok_if (fun _ => ?_) (fun _ => ?_)
    · simp only [g1]; exact ok_call (c_strike (xs (i + 1)) h H) (fun r e => (DX11_strike (xs := xs) (L := L) (d := 0) hL e).2.1) (fun h1 r l e => (DX12_strike (xs := xs) (L := L) (d := 0) l e).2.1) nx
    refine ok_if (fun _ => ?_) (fun _ => ?_)
    · exact ok_call (c_undo  h H) (fun r e => (DX11_undo (xs := xs) (L := L) (d := 0) hL e).2.1) (fun h1 r l e => (DX12_undo (xs := xs) (L := L) (d := 0) l e).2.1) nx
    refine ok_if (fun _ => ?_) (fun _ => ?_)
    · simp only [g1, g2]; exact ok_call (c_where (xs (i + 1)) (xs (i + 2)) h H) (fun r e => (DX11_where (xs := xs) (L := L) (d := 0) hL e).2.1) (fun h1 r l e => (DX12_where (xs := xs) (L := L) (d := 0) l e).2.1) nx
    refine ok_if (fun _ => ?_) (fun _ => ?_)
    · simp only [g1]; exact ok_call (c_may (xs (i + 1)) (hx _).2 h H) (fun r e => (DX11_may (xs := xs) (L := L) (d := 0) hL e).2.1) (fun h1 r l e => (DX12_may (xs := xs) (L := L) (d := 0) l e).2.1) nx
    refine ok_if (fun _ => ?_) (fun _ => ?_)
    · simp only [g1, g2]; exact ok_call (c_read (xs (i + 1)) (xs (i + 2)) (hx _).2 h H) (fun r e => (DX11_read (xs := xs) (L := L) (d := 0) hL e).2.1) (fun h1 r l e => (DX12_read (xs := xs) (L := L) (d := 0) l e).2.1) nx
    refine ok_if (fun _ => ?_) (fun _ => ?_)
    · simp only [g1, g2]; exact ok_call (c_codes (xs (i + 1)) (xs (i + 2)) h H) (fun r e => (DX11_codes (xs := xs) (L := L) (d := 0) hL e).2.1) (fun h1 r l e => (DX12_codes (xs := xs) (L := L) (d := 0) l e).2.1) nx
    refine ok_if (fun _ => ?_) (fun _ => ?_)
    · simp only [g1]; exact ok_call (c_slips (xs (i + 1)) h H) (fun r e => (DX11_slips (xs := xs) (L := L) (d := 0) hL e).2.1) (fun h1 r l e => (DX12_slips (xs := xs) (L := L) (d := 0) l e).2.1) nx
    refine ok_if (fun _ => ?_) (fun _ => ?_)
    · simp only [g1]; exact ok_call (c_worst (xs (i + 1)) h H) (fun r e => (DX11_worst (xs := xs) (L := L) (d := 0) hL e).2.1) (fun h1 r l e => (DX12_worst (xs := xs) (L := L) (d := 0) l e).2.1) nx
    refine ok_if (fun _ => ?_) (fun _ => ?_)
    · exact ok_call (c_idle  h H) (fun r e => (DX11_idle (xs := xs) (L := L) (d := 0) hL e).2.1) (fun h1 r l e => (DX12_idle (xs := xs) (L := L) (d := 0) l e).2.1) nx
    refine ok_if (fun _ => ?_) (fun _ => ?_)
    · exact ok_call (c_least  h H) (fun r e => (DX11_least (xs := xs) (L := L) (d := 0) hL e).2.1) (fun h1 r l e => (DX12_least (xs := xs) (L := L) (d := 0) l e).2.1) nx
    refine ok_if (fun _ => ?_) (fun _ => ?_)
    · simp only [g1]; exact ok_call (c_one (xs (i + 1)) h H) (fun r e => (DX11_one (xs := xs) (L := L) (d := 0) hL e).2.1) (fun h1 r l e => (DX12_one (xs := xs) (L := L) (d := 0) l e).2.1) nx
    refine ok_if (fun _ => ?_) (fun _ => ?_)
    · simp only [g1]; exact ok_call (c_change (xs (i + 1)) h H) (fun r e => (DX11_change (xs := xs) (L := L) (d := 0) hL e).2.1) (fun h1 r l e => (DX12_change (xs := xs) (L := L) (d := 0) l e).2.1) nx
    refine ok_if (fun _ => ?_) (fun _ => ?_)
    · simp only [g1, g2, g3]; exact ok_call (c_ahead (xs (i + 1)) (xs (i + 2)) (xs (i + 3)) h H) (fun r e => (DX11_ahead (xs := xs) (L := L) (d := 0) hL e).2.1) (fun h1 r l e => (DX12_ahead (xs := xs) (L := L) (d := 0) l e).2.1) nx
    refine ok_if (fun _ => ?_) (fun _ => ?_)
    · exact ok_call (c_sorted  h H) (fun r e => (DX11_sorted (xs := xs) (L := L) (d := 0) hL e).2.1) (fun h1 r l e => (DX12_sorted (xs := xs) (L := L) (d := 0) l e).2.1) nx
    refine ok_if (fun _ => ?_) (fun _ => ?_)
    · simp only [g1]; exact ok_call (c_tied (xs (i + 1)) h H) (fun r e => (DX11_tied (xs := xs) (L := L) (d := 0) hL e).2.1) (fun h1 r l e => (DX12_tied (xs := xs) (L := L) (d := 0) l e).2.1) nx
    refine ok_if (fun _ => ?_) (fun _ => ?_)
    · simp only [g1, g2]; exact ok_call (c_enough (xs (i + 1)) (xs (i + 2)) h H) (fun r e => (DX11_enough (xs := xs) (L := L) (d := 0) hL e).2.1) (fun h1 r l e => (DX12_enough (xs := xs) (L := L) (d := 0) l e).2.1) nx
    refine ok_if (fun _ => ?_) (fun _ => ?_)
    · simp only [g1, g2]; exact ok_call (c_said (xs (i + 1)) (xs (i + 2)) h H) (fun r e => (DX11_said (xs := xs) (L := L) (d := 0) hL e).2.1) (fun h1 r l e => (DX12_said (xs := xs) (L := L) (d := 0) l e).2.1) nx
    refine ok_if (fun _ => ?_) (fun _ => ?_)
    · simp only [g1]; exact ok_call (c_sent (xs (i + 1)) h H) (fun r e => (DX11_sent (xs := xs) (L := L) (d := 0) hL e).2.1) (fun h1 r l e => (DX12_sent (xs := xs) (L := L) (d := 0) l e).2.1) nx
    refine ok_if (fun _ => ?_) (fun _ => ?_)
    · simp only [g1, g2]; exact ok_call (c_pence (xs (i + 1)) (xs (i + 2)) h H) (fun r e => (DX11_pence (xs := xs) (L := L) (d := 0) hL e).2.1) (fun h1 r l e => (DX12_pence (xs := xs) (L := L) (d := 0) l e).2.1) nx
    refine ok_if (fun _ => ?_) (fun _ => ?_)
    · simp only [g1, g2, g3]; exact ok_call (c_note (xs (i + 1)) (xs (i + 2)) (xs (i + 3)) h H) (fun r e => (DX11_note (xs := xs) (L := L) (d := 0) hL e).2.1) (fun h1 r l e => (DX12_note (xs := xs) (L := L) (d := 0) l e).2.1) nx
    refine ok_if (fun _ => ?_) (fun _ => ?_)
    · simp only [g1]; exact ok_call (c_ruled (xs (i + 1)) h H) (fun r e => (DX11_ruled (xs := xs) (L := L) (d := 0) hL e).2.1) (fun h1 r l e => (DX12_ruled (xs := xs) (L := L) (d := 0) l e).2.1) nx
    refine ok_if (fun _ => ?_) (fun _ => ?_)
    · simp only [g1, g2]; exact ok_call (c_look (xs (i + 1)) (xs (i + 2)) h H) (fun r e => (DX11_look (xs := xs) (L := L) (d := 0) hL e).2.1) (fun h1 r l e => (DX12_look (xs := xs) (L := L) (d := 0) l e).2.1) nx
    refine ok_if (fun _ => ?_) (fun _ => ?_)
    · simp only [g1]; exact ok_call (c_seed (xs (i + 1)) (hx _).2 h H) (fun r e => (DX11_seed (xs := xs) (L := L) (d := 0) hL e).2.1) (fun h1 r l e => (DX12_seed (xs := xs) (L := L) (d := 0) l e).2.1) nx
    refine ok_if (fun _ => ?_) (fun _ => ?_)
    · simp only [g1, g2, g3, g4]; exact ok_call (c_posts (xs (i + 1)) (xs (i + 2)) (xs (i + 3)) (xs (i + 4)) h H) (fun r e => (DX11_posts (xs := xs) (L := L) (d := 0) hL e).2.1) (fun h1 r l e => (DX12_posts (xs := xs) (L := L) (d := 0) l e).2.1) nx
    refine ok_if (fun _ => ?_) (fun _ => ?_)
    · simp only [g1]; exact ok_call (c_count (xs (i + 1)) h H) (fun r e => (DX11_count (xs := xs) (L := L) (d := 0) hL e).2.1) (fun h1 r l e => (DX12_count (xs := xs) (L := L) (d := 0) l e).2.1) nx
    refine ok_if (fun _ => ?_) (fun _ => ?_)
    · simp only [g1]; exact ok_call (c_image (xs (i + 1)) h H) (fun r e => (DX11_image (xs := xs) (L := L) (d := 0) hL e).2.1) (fun h1 r l e => (DX12_image (xs := xs) (L := L) (d := 0) l e).2.1) nx
    refine ok_if (fun _ => ?_) (fun _ => ?_)
    · simp only [g1]; exact ok_call (c_back (xs (i + 1)) h H) (fun r e => (DX11_back (xs := xs) (L := L) (d := 0) hL e).2.1) (fun h1 r l e => (DX12_back (xs := xs) (L := L) (d := 0) l e).2.1) nx
    exact nx h H hL
