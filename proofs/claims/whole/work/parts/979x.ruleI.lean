/-! RULE: a clause behind its word, read by the class -/
theorem ifC {B : Int → Int} {n : Int} {y : RST} {h : MH} (b : BB B n) (C : CRu h B n y) (o : OkT n y) : ∃ v h', bd (GX9_takeWord (-25) h) (fun x13 h12 => if x13 = 0 then some (1, h12) else GX6_takeTest 0 h12) = some (v, h') ∧ Fr RuF h h' ∧ OutR h' B n v (rif B n y) := by
  have sb := sk_b (B := B) b.2.1 o.1.1 o.1.2.1
  have p0 := o.1.1
  have sp := o.2.1
  obtain ⟨v, h1, e1, F1, y1, n1⟩ := wordCR b C o.1 wd_25
  unfold rif
  rw [e1, bd_some]
  by_cases c : wdp B n (sk B n y.1) (-25)
  · obtain ⟨z, C1⟩ := y1 c
    have we := wd_end b wd_25 (by omega) sb.2 c
    rw [show t_len (-25) = 2 by decide] at C1 we
    have om : OkT n (mvp (sk B n y.1 + 2) y) := ⟨⟨by show (0 : Int) ≤ sk B n y.1 + 2; omega, by show sk B n y.1 + 2 ≤ n; omega, o.1.2.2.1, o.1.2.2.2⟩, by show y.2.1 < sk B n y.1 + 2; omega, o.2.2⟩
    rw [if_neg (show ¬ v = 0 by omega), if_pos (dec_t c)]
    obtain ⟨v2, h2, e2, F2, r2⟩ := testC (RT := G_tf 39 true) (RF := G_tf 39 false) (a := 0) b (fac_Q b 10) (factC b 10 39 (by decide) (by decide)) _ h1 C1 om
    exact ⟨v2, h2, e2, (F1.wk (fun _ _ z => z.ruf)).tr F2, r2⟩
  · obtain ⟨z, C1⟩ := n1 c
    rw [if_pos z, if_neg (show ¬ dec (wdp B n (sk B n y.1) (-25)) = true by rw [dec_f c]; decide)]
    exact ⟨1, h1, rfl, F1.wk (fun _ _ z => z.ruf), rfl, C1⟩
