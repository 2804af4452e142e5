/-! the relation and what is owed: both sides keep the same now state, goal and actions; the scratch arrays are free, but 0 behind their ends -/
def i_Rel (_ : Nat) (u : SX) (v : SY) : Prop := ∃ (nw gt gf : Int32) (g ne ba ad dr co L Q F M G : Nat → Int32), u = (nw, gt, gf, g, ne, ba, ad, dr, co, L, Q, F) ∧ v = (nw, gt, gf, g, ne, ba, ad, dr, co, M, G) ∧ ap_b8 nw ∧ ap_A g ad co ∧ ap_T L ∧ ap_T M
theorem ap_mk (k : Nat) {nw gt gf : Int32} {g ne ba ad dr co L Q F M G : Nat → Int32} (h1 : ap_b8 nw) (h2 : ap_A g ad co) (h3 : ap_T L) (h4 : ap_T M) : i_Rel k (nw, gt, gf, g, ne, ba, ad, dr, co, L, Q, F) (nw, gt, gf, g, ne, ba, ad, dr, co, M, G) := ⟨nw, gt, gf, g, ne, ba, ad, dr, co, L, Q, F, M, G, rfl, rfl, h1, h2, h3, h4⟩
theorem i_up {k : Nat} {u : SX} {v : SY} (h : i_Rel k u v) : i_Rel (k + 5) u v := h
theorem i_vc0 : wpX_init (fun u => wpY_init (fun v => i_Rel 0 u v)) :=
  ap_mk 0 ⟨0, by omega, rfl⟩ (fun _ _ => ⟨⟨0, by omega, rfl⟩, 0, by omega, rfl, fun z => absurd rfl z⟩) (fun _ _ => rfl) (fun _ _ => rfl)
theorem ap_A_give {g ad co : Nat → Int32} {a : Nat} (h : ap_A g ad co) : ap_A (upd g a 1) (upd ad a 0) (upd co a 1) := by
  intro b hb
  by_cases e : b = a
  · rw [e, pk_us, pk_us]
    exact ⟨⟨0, by omega, rfl⟩, 1, by omega, rfl, fun _ => Nat.le_refl 1⟩
  · rw [pk_un e, pk_un e, pk_un e]
    exact h b hb
theorem ap_A_eff {g ad co : Nat → Int32} {a c : Nat} {x : Int32} (h : ap_A g ad co) (hx : ap_b8 x) (h1 : 1 ≤ c) (h50 : c ≤ 50) : ap_A g (upd ad a x) (upd co a (nI c)) := by
  intro b hb
  by_cases e : b = a
  · rw [e, pk_us, pk_us]
    exact ⟨hx, c, h50, rfl, fun _ => h1⟩
  · rw [pk_un e, pk_un e]
    exact h b hb
theorem ap_A_drop {g ad co : Nat → Int32} {a : Nat} (h : ap_A g ad co) : ap_A (upd g a 0) ad co := by
  intro b hb
  obtain ⟨h1, c, h2, h3, h4⟩ := h b hb
  refine ⟨h1, c, h2, h3, fun z => ?_⟩
  by_cases e : b = a
  · rw [e, pk_us] at z
    exact absurd rfl z
  · rw [pk_un e] at z
    exact h4 z
theorem ap_lt10' {a : Nat} (ha : a < 10) : nI a < (10 : Int32) := nI_lt (b := 10) ha (by decide)
theorem i_vc_require {k : Nat} {u : SX} {v : SY} (I : i_Rel k u v) (hk : k + 5 ≤ 2560) (v1 : Int32) (v2 : Int32) (v3 : Int32) : wpX_require (fun r u' => wpY_require (fun r' v' => r' = r ∧ i_Rel (k + 5) u' v') v v1 v2 v3) u v1 v2 v3 := by
  obtain ⟨nw, gt, gf, g, ne, ba, ad, dr, co, L, Q, F, M, G, rfl, rfl, h1, h2, h3, h4⟩ := I
  unfold wpX_require wpY_require wX_require_49 wY_require_46
  dsimp only
  rcases pk_ix v1 (n := 10) (by decide) with h | h | ⟨a, ha, rfl⟩
  · exact br_t h (ap_yBad (br_f (by decide) ⟨rfl, ap_mk _ h1 h2 h3 h4⟩) (Or.inl h))
  · have h0 : ¬ v1 < 0 := fun z => Int32.lt_irrefl (Int32.lt_of_lt_of_le z (Int32.le_trans (by decide) h))
    have h10 : ¬ v1 < 10 := Int32.not_lt.mpr h
    exact br_f h0 (br_f h10 (ap_yBad (br_f (by decide) ⟨rfl, ap_mk _ h1 h2 h3 h4⟩) (Or.inr h)))
  · have hi := ap_ina ha
    have hp : ¬ nI a < 0 := nI_pos (by omega)
    refine br_f hp (br_t (ap_lt10' ha) ⟨hi, br_c (fun g0 => ⟨hi, nm_e ⟨hi, nm_e ⟨hi, nm_e ⟨hi, nm_e ⟨hi, nm_e ⟨hi, nm_e ?_⟩⟩⟩⟩⟩⟩) (fun g1 => ⟨hi, nm_e ⟨hi, nm_e ?_⟩⟩)⟩)
    · refine ap_yGood ha (br_t rfl ⟨hi, br_t g0 ⟨hi, nm_e ⟨hi, nm_e ⟨hi, nm_e ⟨hi, nm_e ⟨hi, nm_e ⟨hi, nm_e ⟨rfl, ?_⟩⟩⟩⟩⟩⟩⟩⟩)
      rw [ap_cla ha, ap_v1]
      exact ap_mk _ h1 (ap_A_give h2) h3 h4
    · exact ap_yGood ha (br_t rfl ⟨hi, br_f g1 ⟨hi, nm_e ⟨hi, nm_e ⟨rfl, ap_mk _ h1 h2 h3 h4⟩⟩⟩⟩)
theorem i_vc_effect {k : Nat} {u : SX} {v : SY} (I : i_Rel k u v) (hk : k + 5 ≤ 2560) (v1 : Int32) (v2 : Int32) (v3 : Int32) (v4 : Int32) : wpX_effect (fun r u' => wpY_effect (fun r' v' => r' = r ∧ i_Rel (k + 5) u' v') v v1 v2 v3 v4) u v1 v2 v3 v4 := by
  obtain ⟨nw, gt, gf, g, ne, ba, ad, dr, co, L, Q, F, M, G, rfl, rfl, h1, h2, h3, h4⟩ := I
  unfold wpX_effect wpY_effect
  dsimp only
  rcases pk_ix v1 (n := 10) (by decide) with h | h | ⟨a, ha, rfl⟩
  · exact ap_xGivenN (br_t rfl (ap_yBad (br_f (by decide) ⟨rfl, ap_mk _ h1 h2 h3 h4⟩) (Or.inl h))) (Or.inl h)
  · exact ap_xGivenN (br_t rfl (ap_yBad (br_f (by decide) ⟨rfl, ap_mk _ h1 h2 h3 h4⟩) (Or.inr h))) (Or.inr h)
  · have hi := ap_ina ha
    have ea := ap_cla ha
    refine ap_xGiven ha (fun g0 => br_t rfl (ap_yGood ha (br_t rfl ⟨hi, br_t (by rw [ea]; exact g0) ⟨rfl, ap_mk _ h1 h2 h3 h4⟩⟩))) (fun g1 => br_f (by decide) ⟨hi, nm_e ⟨hi, nm_e ?_⟩⟩)
    have g1' : ¬ g (nI a).toNatClampNeg = 0 := by rw [ea]; exact g1
    by_cases c1 : 1 ≤ v4
    · by_cases c2 : v4 ≤ 50
      · refine br_t c1 (br_t c2 ⟨hi, nm_e (ap_yGood ha (br_t rfl ⟨hi, br_f g1' ⟨hi, nm_e ⟨hi, nm_e (br_t c1 (br_t c2 ⟨hi, nm_e ⟨rfl, ?_⟩⟩))⟩⟩⟩))⟩)
        have hn : ¬ v4 < 0 := fun z => Int32.lt_irrefl (Int32.lt_of_lt_of_le z (Int32.le_trans (by decide) c1))
        obtain ⟨c, hc, rfl⟩ := nI_of2 (M := 50) (n := 50) (by decide) hn c2
        have hc1 : 1 ≤ c := (nI_leI (a := 1) (b := c) (by omega) (by omega)).mp c1
        rw [ea]
        exact ap_mk _ h1 (ap_A_eff h2 (ap_mask _) hc1 hc) h3 h4
      · refine br_t c1 (br_f c2 ⟨hi, nm_e (ap_yGood ha (br_t rfl ⟨hi, br_f g1' ⟨hi, nm_e ⟨hi, nm_e (br_t c1 (br_f c2 ⟨hi, nm_e ⟨rfl, ?_⟩⟩))⟩⟩⟩))⟩)
        rw [ea]
        exact ap_mk _ h1 (ap_A_eff (c := 50) h2 (ap_mask _) (by decide) (by decide)) h3 h4
    · refine br_f c1 ⟨hi, nm_e (ap_yGood ha (br_t rfl ⟨hi, br_f g1' ⟨hi, nm_e ⟨hi, nm_e (br_f c1 ⟨hi, nm_e ⟨rfl, ?_⟩⟩)⟩⟩⟩))⟩
      rw [ea]
      exact ap_mk _ h1 (ap_A_eff (c := 1) h2 (ap_mask _) (by decide) (by decide)) h3 h4
theorem i_vc_forget {k : Nat} {u : SX} {v : SY} (I : i_Rel k u v) (hk : k + 5 ≤ 2560) (v1 : Int32) : wpX_forget (fun r u' => wpY_forget (fun r' v' => r' = r ∧ i_Rel (k + 5) u' v') v v1) u v1 := by
  obtain ⟨nw, gt, gf, g, ne, ba, ad, dr, co, L, Q, F, M, G, rfl, rfl, h1, h2, h3, h4⟩ := I
  unfold wpX_forget wpY_forget
  dsimp only
  rcases pk_ix v1 (n := 10) (by decide) with h | h | ⟨a, ha, rfl⟩
  · exact ap_xGivenN (br_t rfl (ap_yBad (br_f (by decide) ⟨rfl, ap_mk _ h1 h2 h3 h4⟩) (Or.inl h))) (Or.inl h)
  · exact ap_xGivenN (br_t rfl (ap_yBad (br_f (by decide) ⟨rfl, ap_mk _ h1 h2 h3 h4⟩) (Or.inr h))) (Or.inr h)
  · have hi := ap_ina ha
    have ea := ap_cla ha
    refine ap_xGiven ha (fun g0 => br_t rfl (ap_yGood ha (br_t rfl ⟨hi, br_t (by rw [ea]; exact g0) ⟨rfl, ap_mk _ h1 h2 h3 h4⟩⟩))) (fun g1 => br_f (by decide) ⟨hi, nm_e (ap_yGood ha (br_t rfl ⟨hi, br_f (by rw [ea]; exact g1) ⟨hi, nm_e ⟨rfl, ?_⟩⟩⟩))⟩)
    rw [ea, ap_v0]
    exact ap_mk _ h1 (ap_A_drop h2) h3 h4
theorem i_vc_want {k : Nat} {u : SX} {v : SY} (I : i_Rel k u v) (hk : k + 5 ≤ 2560) (v1 : Int32) (v2 : Int32) : wpX_want (fun u' => wpY_want (fun v' => i_Rel (k + 5) u' v') v v1 v2) u v1 v2 := by
  obtain ⟨nw, gt, gf, g, ne, ba, ad, dr, co, L, Q, F, M, G, rfl, rfl, h1, h2, h3, h4⟩ := I
  exact nm_e (nm_e (nm_e (nm_e (ap_mk _ h1 h2 h3 h4))))
theorem i_vc_observe {k : Nat} {u : SX} {v : SY} (I : i_Rel k u v) (hk : k + 5 ≤ 2560) (v1 : Int32) : wpX_observe (fun u' => wpY_observe (fun v' => i_Rel (k + 5) u' v') v v1) u v1 := by
  obtain ⟨nw, gt, gf, g, ne, ba, ad, dr, co, L, Q, F, M, G, rfl, rfl, h1, h2, h3, h4⟩ := I
  exact nm_e (nm_e (ap_mk _ (ap_mask v1) h2 h3 h4))
theorem i_vc_now {k : Nat} {u : SX} {v : SY} (I : i_Rel k u v) (hk : k + 5 ≤ 2560) : wpX_now (fun r => wpY_now (fun r' => r' = r ∧ i_Rel (k + 5) u v) v) u := by
  obtain ⟨nw, gt, gf, g, ne, ba, ad, dr, co, L, Q, F, M, G, rfl, rfl, h1, h2, h3, h4⟩ := I
  exact And.intro rfl (ap_mk _ h1 h2 h3 h4)
theorem i_vc_price {k : Nat} {u : SX} {v : SY} (I : i_Rel k u v) (hk : k + 5 ≤ 2560) : wpX_price (fun r u' => wpY_price (fun r' v' => r' = r ∧ i_Rel (k + 5) u' v') v) u := by
  obtain ⟨nw, gt, gf, g, ne, ba, ad, dr, co, L, Q, F, M, G, rfl, rfl, h1, h2, h3, h4⟩ := I
  obtain ⟨L', hL', hX, hY⟩ := ap_work nw gt gf g ne ba ad dr co h2
  have hin := ap_in h1
  have hR := fun (r : Int32) => And.intro (rfl : r = r) (ap_mk (gt := gt) (gf := gf) (ne := ne) (ba := ba) (dr := dr) (Q := Q) (F := F) (G := G) (k + 5) h1 h2 hL'.2 hL'.2)
  obtain ⟨j, hj, rfl⟩ := h1
  obtain ⟨l, hl, el⟩ := hL'.1 j hj
  have elj : L' (nI j).toNatClampNeg = nI l := by rw [ap_cl hj]; exact el
  unfold wpX_price wpY_price
  dsimp only
  by_cases h6 : l = 1000000
  · have e1 : L' (nI j).toNatClampNeg = 1000000 := by rw [elj, h6]; rfl
    have e2 : (1000000 : Int32) ≤ L' (nI j).toNatClampNeg := by rw [e1]; decide
    exact hX _ L Q F h3 ⟨hin, br_t e1 (hY _ M G h4 ⟨hin, br_t e2 (hR _)⟩)⟩
  · have e1 : ¬ L' (nI j).toNatClampNeg = 1000000 := by
      rw [elj]
      intro z
      exact h6 ((nI_eq (a := l) (b := 1000000) (by omega) (by omega)).mp z)
    have e2 : ¬ (1000000 : Int32) ≤ L' (nI j).toNatClampNeg := by rw [elj]; exact nI_ge (b := 1000000) (by omega) (by decide)
    exact hX _ L Q F h3 ⟨hin, br_f e1 ⟨hin, hY _ M G h4 ⟨hin, br_f e2 ⟨hin, hR _⟩⟩⟩⟩
theorem i_vc_steps {k : Nat} {u : SX} {v : SY} (I : i_Rel k u v) (hk : k + 5 ≤ 2560) : wpX_steps (fun r u' => wpY_steps (fun r' v' => r' = r ∧ i_Rel (k + 5) u' v') v) u := by
  obtain ⟨nw, gt, gf, g, ne, ba, ad, dr, co, L, Q, F, M, G, rfl, rfl, h1, h2, h3, h4⟩ := I
  obtain ⟨L', hL', hX, hY⟩ := ap_work nw gt gf g ne ba ad dr co h2
  have hin := ap_in h1
  have hR := fun (r : Int32) => And.intro (rfl : r = r) (ap_mk (gt := gt) (gf := gf) (ne := ne) (ba := ba) (dr := dr) (Q := Q) (F := F) (G := G) (k + 5) h1 h2 hL'.2 hL'.2)
  obtain ⟨j, hj, rfl⟩ := h1
  obtain ⟨l, hl, el⟩ := hL'.1 j hj
  have elj : L' (nI j).toNatClampNeg = nI l := by rw [ap_cl hj]; exact el
  unfold wpX_steps wpY_steps
  dsimp only
  by_cases h6 : l = 1000000
  · have e1 : L' (nI j).toNatClampNeg = 1000000 := by rw [elj, h6]; rfl
    have e2 : ¬ L' (nI j).toNatClampNeg < 1000000 := by rw [e1]; decide
    exact hX _ L Q F h3 ⟨hin, br_t e1 (hY _ M G h4 ⟨hin, br_f e2 (hR _)⟩)⟩
  · have e1 : ¬ L' (nI j).toNatClampNeg = 1000000 := by
      rw [elj]
      intro z
      exact h6 ((nI_eq (a := l) (b := 1000000) (by omega) (by omega)).mp z)
    have e2 : L' (nI j).toNatClampNeg < 1000000 := by rw [elj]; exact nI_lt (b := 1000000) (by omega) (by decide)
    obtain ⟨r, hsX, hsY⟩ := ap_steps (nI j) gt gf g ne ba ad dr co h2 hL' 256 0 (by omega) j hj
    exact hX _ L Q F h3 ⟨hin, br_f e1 ⟨257, hsX _ Q F (hY _ M G h4 ⟨hin, br_t e2 ⟨257, hsY _ G (hR _)⟩⟩)⟩⟩
theorem i_vc_planned {k : Nat} {u : SX} {v : SY} (I : i_Rel k u v) (hk : k + 5 ≤ 2560) (v1 : Int32) : wpX_planned (fun r u' => wpY_planned (fun r' v' => r' = r ∧ i_Rel (k + 5) u' v') v v1) u v1 := by
  obtain ⟨nw, gt, gf, g, ne, ba, ad, dr, co, L, Q, F, M, G, rfl, rfl, h1, h2, h3, h4⟩ := I
  obtain ⟨L', hL', hX, hY⟩ := ap_work nw gt gf g ne ba ad dr co h2
  have hR := fun (r : Int32) => And.intro (rfl : r = r) (ap_mk (gt := gt) (gf := gf) (ne := ne) (ba := ba) (dr := dr) (Q := Q) (F := F) (G := G) (k + 5) h1 h2 hL'.2 hL'.2)
  have hR2 := fun (r : Int32) => And.intro (rfl : r = r) (ap_mk (gt := gt) (gf := gf) (ne := ne) (ba := ba) (dr := dr) (Q := Q) (F := F) (G := G) (k + 5) h1 h2 h3 hL'.2)
  obtain ⟨j, hj, rfl⟩ := h1
  unfold wpX_planned wpY_planned
  dsimp only
  rcases pk_ix v1 (n := 256) (by decide) with h | h | ⟨p, hp, rfl⟩
  · have hx : ∀ i, i < 256 → ¬ nI i = v1 := by
      intro i hi z
      rw [← z] at h
      exact nI_pos (by omega) h
    exact br_t h (hY _ M G h4 ⟨257, ap_planN (nI j) gt gf g ne ba ad dr co h2 hL' hx 256 0 (by omega) j hj _ G (hR2 _)⟩)
  · have h0 : ¬ v1 < 0 := fun z => Int32.lt_irrefl (Int32.lt_of_lt_of_le z (Int32.le_trans (by decide) h))
    have h10 : ¬ v1 < 256 := Int32.not_lt.mpr h
    have hx : ∀ i, i < 256 → ¬ nI i = v1 := by
      intro i hi z
      rw [← z] at h
      exact nI_ge hi (by decide) h
    exact br_f h0 (br_f h10 (hY _ M G h4 ⟨257, ap_planN (nI j) gt gf g ne ba ad dr co h2 hL' hx 256 0 (by omega) j hj _ G (hR2 _)⟩))
  · have hn : ¬ nI p < 0 := nI_pos (by omega)
    have hl : nI p < (256 : Int32) := nI_lt (b := 256) hp (by decide)
    obtain ⟨r, hsX, hsY⟩ := ap_plan (nI j) gt gf g ne ba ad dr co h2 hL' hp p 0 (by omega) j hj
    exact br_f hn (br_t hl (hX _ L Q F h3 ⟨p + 1, hsX _ Q F (hY _ M G h4 ⟨p + 1, hsY _ G (hR _)⟩)⟩))
theorem i_vc_advance {k : Nat} {u : SX} {v : SY} (I : i_Rel k u v) (hk : k + 5 ≤ 2560) : wpX_advance (fun r u' => wpY_advance (fun r' v' => r' = r ∧ i_Rel (k + 5) u' v') v) u := by
  obtain ⟨nw, gt, gf, g, ne, ba, ad, dr, co, L, Q, F, M, G, rfl, rfl, h1, h2, h3, h4⟩ := I
  obtain ⟨L', hL', hX, hY⟩ := ap_work nw gt gf g ne ba ad dr co h2
  have h1' := h1
  obtain ⟨j, hj, rfl⟩ := h1
  unfold wpX_advance wpY_advance
  dsimp only
  obtain ⟨r, hr, hfX, hfY⟩ := ap_first (nI j) gt gf g ne ba ad dr co h2 hL' hj
  rcases hr with rfl | ⟨a, ha, rfl⟩
  · exact hX _ L Q F h3 (hfX _ Q F (br_t ap_neg1' (hY _ M G h4 (hfY _ G (br_t ap_neg1' ⟨rfl, ap_mk _ h1' h2 hL'.2 hL'.2⟩)))))
  · obtain ⟨t, ht, et⟩ := ap_aftE (dr := dr) hj (h2 a ha).1
    have h0 : ¬ nI a < 0 := nI_pos (by omega)
    exact hX _ L Q F h3 (hfX _ Q F (br_f h0 (ap_xAft ha et (hY _ M G h4 (hfY _ G (br_f h0 (ap_yAft ha ht et ⟨rfl, ap_mk _ ⟨t, ht, rfl⟩ h2 hL'.2 hL'.2⟩)))))))
theorem i_vc_act {k : Nat} {u : SX} {v : SY} (I : i_Rel k u v) (hk : k + 5 ≤ 2560) (v1 : Int32) : wpX_act (fun r u' => wpY_act (fun r' v' => r' = r ∧ i_Rel (k + 5) u' v') v v1) u v1 := by
  obtain ⟨nw, gt, gf, g, ne, ba, ad, dr, co, L, Q, F, M, G, rfl, rfl, h1, h2, h3, h4⟩ := I
  have h1' := h1
  obtain ⟨j, hj, rfl⟩ := h1
  unfold wpX_act wpY_act
  dsimp only
  rcases pk_ix v1 (n := 10) (by decide) with h | h | ⟨a, ha, rfl⟩
  · exact ap_xGivenN (br_t rfl (ap_yBad (br_f (by decide) ⟨rfl, ap_mk _ h1' h2 h3 h4⟩) (Or.inl h))) (Or.inl h)
  · exact ap_xGivenN (br_t rfl (ap_yBad (br_f (by decide) ⟨rfl, ap_mk _ h1' h2 h3 h4⟩) (Or.inr h))) (Or.inr h)
  · obtain ⟨t, ht, et⟩ := ap_aftE (dr := dr) hj (h2 a ha).1
    refine ap_xGiven ha (fun g0 => br_t rfl (ap_yGood ha (br_t rfl (ap_yCan ha (fun z => absurd g0 z.1) (fun _ => br_t rfl ⟨rfl, ap_mk _ h1' h2 h3 h4⟩))))) (fun g1 => br_f (by decide) (ap_xCan ha (fun c => br_f (by decide) (ap_xAft ha et (ap_yGood ha (br_t rfl (ap_yCan ha (fun _ => br_f (by decide) (ap_yAft ha ht et ⟨rfl, ap_mk _ ⟨t, ht, rfl⟩ h2 h3 h4⟩)) (fun z => absurd ⟨g1, c⟩ z)))))) (fun c => br_t rfl (ap_yGood ha (br_t rfl (ap_yCan ha (fun z => absurd z.2 c) (fun _ => br_t rfl ⟨rfl, ap_mk _ h1' h2 h3 h4⟩)))))))
theorem i_vc_reachable {k : Nat} {u : SX} {v : SY} (I : i_Rel k u v) (hk : k + 5 ≤ 2560) : wpX_reachable (fun r u' => wpY_reachable (fun r' v' => r' = r ∧ i_Rel (k + 5) u' v') v) u := by
  obtain ⟨nw, gt, gf, g, ne, ba, ad, dr, co, L, Q, F, M, G, rfl, rfl, h1, h2, h3, h4⟩ := I
  have h1' := h1
  obtain ⟨j, hj, rfl⟩ := h1
  refine ap_xReach gt gf g ne ba ad dr co h2 L Q F _ hj (fun c F' Q' hF' hc => ap_yReach gt gf g ne ba ad dr co h2 M G _ hj (fun G' hG' => ⟨?_, ap_mk _ h1' h2 h3 h4⟩))
  rw [hc, ap_clo_cnt hF' hG']
