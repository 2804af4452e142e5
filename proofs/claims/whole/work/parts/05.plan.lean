/-! the chosen plan: first action, number of steps, place -/
section
variable (nw gt gf : Int32) (g ne ba ad dr co : Nat → Int32)
/-- from a state whose least price is 0 the component's scan finds nothing -/
theorem ap_xF0 (hA : ap_A g ad co) {L : Nat → Int32} (hL : ap_L L) {j : Nat} (hj : j < 256) (h0 : L j = 0) (Q F : Nat → Int32) (post : Int32 → Prop) (hp : post (-1)) : ∀ d a : Nat, a + d = 10 → wX_firstAction_15 post (nI j) nw gt gf g ne ba ad dr co L Q F (d + 1) (nI a) := by
  intro d
  induction d with
  | zero =>
    intro a ha
    have h : (10 : Int32) ≤ nI a := nI_le (a := 10) (by omega) (by omega)
    exact br_t h hp
  | succ d ih =>
    intro a had
    have ha : a < 10 := by omega
    have h := ap_lt10 ha
    have hij := ap_inj8 hj
    obtain ⟨hAa, c0, hc0, ec, hc1⟩ := hA a ha
    obtain ⟨t, ht, et⟩ := ap_aftE (dr := dr) hj hAa
    obtain ⟨l2, hl2, el2⟩ := hL.1 t ht
    have ev : co a + L t = nI (c0 + l2) := by rw [ec, el2, nI_add]
    have elj : L (nI j).toNatClampNeg = 0 := by rw [ap_cl hj]; exact h0
    refine br_f h (ap_xPT ha et ht ev (fun z => ⟨hij, br_f ?_ (nm_r (nI_1 a) (ih (a + 1) (by omega)))⟩) (fun z => ⟨hij, br_f ?_ (nm_r (nI_1 a) (ih (a + 1) (by omega)))⟩))
    · have := hc1 z.1
      rw [elj]
      exact nI_ne0 (by omega) (by omega)
    · rw [elj]
      decide
theorem ap_scan (hA : ap_A g ad co) {L : Nat → Int32} (hL : ap_L L) {j l : Nat} (hj : j < 256) (el : L j = nI l) (hl : l < 1000000) : ∀ d a : Nat, a + d = 10 → ∃ r : Int32, (r = -1 ∨ ∃ b : Nat, b < 10 ∧ r = nI b) ∧
    (∀ (post : Int32 → Prop) (Q F : Nat → Int32), post r → wX_firstAction_15 post (nI j) nw gt gf g ne ba ad dr co L Q F (d + 1) (nI a)) ∧
    (∀ (post : Int32 → Prop) (G : Nat → Int32), post r → wY_first_24 post (nI j) nw gt gf g ne ba ad dr co L G (d + 1) (nI a)) := by
  intro d
  induction d with
  | zero =>
    intro a ha
    have h : (10 : Int32) ≤ nI a := nI_le (a := 10) (by omega) (by omega)
    exact ⟨-1, Or.inl rfl, fun post Q F hp => br_t h hp, fun post G hp => br_t h hp⟩
  | succ d ih =>
    intro a had
    have ha : a < 10 := by omega
    have h := ap_lt10 ha
    have hij := ap_inj8 hj
    have hia := ap_ina ha
    obtain ⟨hAa, c0, hc0, ec, hc1⟩ := hA a ha
    obtain ⟨t, ht, et⟩ := ap_aftE (dr := dr) hj hAa
    have hit := ap_inj8 ht
    obtain ⟨l2, hl2, el2⟩ := hL.1 t ht
    have ev : co a + L t = nI (c0 + l2) := by rw [ec, el2, nI_add]
    have evY : co (nI a).toNatClampNeg + L (nI t).toNatClampNeg = nI (c0 + l2) := by rw [ap_cla ha, ap_cl ht]; exact ev
    have elj : L (nI j).toNatClampNeg = nI l := by rw [ap_cl hj]; exact el
    by_cases hc : ap_can g ne ba a (nI j)
    · by_cases hv : c0 + l2 = l
      · have e1 : nI (c0 + l2) = L (nI j).toNatClampNeg := by rw [elj, hv]
        exact ⟨nI a, Or.inr ⟨a, ha, rfl⟩, fun post Q F hp => br_f h (ap_xPT ha et ht ev (fun _ => ⟨hij, br_t e1 hp⟩) (fun z => absurd hc z)), fun post G hp => br_f h (ap_yAft ha ht et (ap_yCan ha (fun _ => br_f (by decide) ⟨hia, hit, hij, br_t (evY.trans e1) hp⟩) (fun z => absurd hc z)))⟩
      · have e1 : ¬ nI (c0 + l2) = L (nI j).toNatClampNeg := by rw [elj, nI_eq (by omega) (by omega)]; exact hv
        obtain ⟨r, hr, hX, hY⟩ := ih (a + 1) (by omega)
        exact ⟨r, hr, fun post Q F hp => br_f h (ap_xPT ha et ht ev (fun _ => ⟨hij, br_f e1 (nm_r (nI_1 a) (hX post Q F hp))⟩) (fun z => absurd hc z)), fun post G hp => br_f h (ap_yAft ha ht et (ap_yCan ha (fun _ => br_f (by decide) ⟨hia, hit, hij, br_f (fun z => e1 (evY.symm.trans z)) (nm_r (nI_1 a) (hY post G hp))⟩) (fun z => absurd hc z)))⟩
    · have e1 : ¬ (1000000 : Int32) = L (nI j).toNatClampNeg := by
        rw [elj]
        intro z
        have := (nI_eq (a := 1000000) (b := l) (by omega) (by omega)).mp z
        omega
      obtain ⟨r, hr, hX, hY⟩ := ih (a + 1) (by omega)
      exact ⟨r, hr, fun post Q F hp => br_f h (ap_xPT ha et ht ev (fun z => absurd z hc) (fun _ => ⟨hij, br_f e1 (nm_r (nI_1 a) (hX post Q F hp))⟩)), fun post G hp => br_f h (ap_yAft ha ht et (ap_yCan ha (fun z => absurd z hc) (fun _ => br_t rfl (nm_r (nI_1 a) (hY post G hp)))))⟩
theorem ap_first (hA : ap_A g ad co) {L : Nat → Int32} (hL : ap_L L) {j : Nat} (hj : j < 256) : ∃ r : Int32, (r = -1 ∨ ∃ b : Nat, b < 10 ∧ r = nI b) ∧
    (∀ (post : Int32 → Prop) (Q F : Nat → Int32), post r → wpX_firstAction post (nw, gt, gf, g, ne, ba, ad, dr, co, L, Q, F) (nI j)) ∧
    (∀ (post : Int32 → Prop) (G : Nat → Int32), post r → wpY_first post (nw, gt, gf, g, ne, ba, ad, dr, co, L, G) (nI j)) := by
  have hij := ap_inj8 hj
  obtain ⟨l, hl, el⟩ := hL.1 j hj
  have elj : L (nI j).toNatClampNeg = nI l := by rw [ap_cl hj]; exact el
  by_cases h6 : l = 1000000
  · have e1 : L (nI j).toNatClampNeg = 1000000 := by rw [elj, h6]; rfl
    have e0 : ¬ L (nI j).toNatClampNeg = 0 := by rw [e1]; decide
    have e2 : ¬ L (nI j).toNatClampNeg < 1000000 := by rw [e1]; decide
    exact ⟨-1, Or.inl rfl, fun post Q F hp => And.intro hij (br_t e1 hp), fun post G hp => And.intro hij (br_f e0 ⟨hij, br_f e2 hp⟩)⟩
  · have e1 : ¬ L (nI j).toNatClampNeg = 1000000 := by
      rw [elj]
      intro z
      exact h6 ((nI_eq (a := l) (b := 1000000) (by omega) (by omega)).mp z)
    by_cases h0 : l = 0
    · have e0 : L (nI j).toNatClampNeg = 0 := by rw [elj, h0]; rfl
      exact ⟨-1, Or.inl rfl, fun post Q F hp => And.intro hij (br_f e1 (Exists.intro 11 (ap_xF0 nw gt gf g ne ba ad dr co hA hL hj (by rw [el, h0]; rfl) Q F post hp 10 0 (by omega)))), fun post G hp => And.intro hij (br_t e0 hp)⟩
    · have e0 : ¬ L (nI j).toNatClampNeg = 0 := by rw [elj]; exact nI_ne0 (by omega) (by omega)
      have e2 : L (nI j).toNatClampNeg < 1000000 := by rw [elj]; exact nI_lt (b := 1000000) (by omega) (by decide)
      obtain ⟨r, hr, hX, hY⟩ := ap_scan nw gt gf g ne ba ad dr co hA hL hj el (by omega) 10 0 (by omega)
      exact ⟨r, hr, fun post Q F hp => And.intro hij (br_f e1 (Exists.intro 11 (hX post Q F hp))), fun post G hp => And.intro hij (br_f e0 ⟨hij, br_t e2 (Exists.intro 11 (hY post G hp))⟩)⟩
theorem ap_neg1 : ¬ (0 : Int32) ≤ -1 := by decide
theorem ap_neg1' : (-1 : Int32) < 0 := by decide
theorem ap_steps (hA : ap_A g ad co) {L : Nat → Int32} (hL : ap_L L) : ∀ d i : Nat, i + d = 256 → ∀ j, j < 256 → ∃ r : Int32,
    (∀ (post : Int32 → SX → Prop) (Q F : Nat → Int32), post r (nw, gt, gf, g, ne, ba, ad, dr, co, L, Q, F) → wX_steps_27 post nw gt gf g ne ba ad dr co L Q F (d + 1) (nI j) (nI i)) ∧
    (∀ (post : Int32 → SY → Prop) (G : Nat → Int32), post r (nw, gt, gf, g, ne, ba, ad, dr, co, L, G) → wY_steps_27 post nw gt gf g ne ba ad dr co L G (d + 1) (nI j) (nI i)) := by
  intro d
  induction d with
  | zero =>
    intro i hi j hj
    have e : i = 256 := by omega
    subst e
    have h : (256 : Int32) ≤ nI 256 := nI_le (a := 256) (by omega) (by omega)
    exact ⟨nI 256, fun post Q F hp => br_t h hp, fun post G hp => br_t h hp⟩
  | succ d ih =>
    intro i hi j hj
    have h : ¬ (256 : Int32) ≤ nI i := nI_ge (b := 256) (by omega) (by decide)
    obtain ⟨r, hr, hfX, hfY⟩ := ap_first nw gt gf g ne ba ad dr co hA hL hj
    rcases hr with rfl | ⟨a, ha, rfl⟩
    · exact ⟨nI i, fun post Q F hp => br_f h (hfX _ Q F (br_f ap_neg1 hp)), fun post G hp => br_f h (hfY _ G (br_f ap_neg1 hp))⟩
    · obtain ⟨t, ht, et⟩ := ap_aftE (dr := dr) hj (hA a ha).1
      obtain ⟨r, hX, hY⟩ := ih (i + 1) (by omega) t ht
      have h0 : (0 : Int32) ≤ nI a := nI_pos' (by omega)
      exact ⟨r, fun post Q F hp => br_f h (hfX _ Q F (br_t h0 (ap_xAft ha et (nm_r (nI_1 i) (hX post Q F hp))))), fun post G hp => br_f h (hfY _ G (br_t h0 (ap_yAft ha ht et (nm_r (nI_1 i) (hY post G hp)))))⟩
theorem ap_plan (hA : ap_A g ad co) {L : Nat → Int32} (hL : ap_L L) {p : Nat} (hp6 : p < 256) : ∀ d i : Nat, i + d = p → ∀ j, j < 256 → ∃ r : Int32,
    (∀ (post : Int32 → SX → Prop) (Q F : Nat → Int32), post r (nw, gt, gf, g, ne, ba, ad, dr, co, L, Q, F) → wX_planned_24 post (nI p) nw gt gf g ne ba ad dr co L Q F (d + 1) (nI j) (nI i)) ∧
    (∀ (post : Int32 → SY → Prop) (G : Nat → Int32), post r (nw, gt, gf, g, ne, ba, ad, dr, co, L, G) → wY_planned_11 post (nI p) nw gt gf g ne ba ad dr co L G (d + 1) (nI j) (nI i)) := by
  intro d
  induction d with
  | zero =>
    intro i hi j hj
    have e : i = p := by omega
    subst e
    have h : ¬ (256 : Int32) ≤ nI i := nI_ge (b := 256) (by omega) (by decide)
    have hle : nI i ≤ nI i := nI_le (by omega) (by omega)
    obtain ⟨r, hr, hfX, hfY⟩ := ap_first nw gt gf g ne ba ad dr co hA hL hj
    refine ⟨r, fun post Q F hp => br_t hle (hfX _ Q F hp), fun post G hp => br_f h (hfY _ G ?_)⟩
    by_cases hn : r < 0
    · exact br_t hn hp
    · exact br_f hn (br_t rfl hp)
  | succ d ih =>
    intro i hi j hj
    have h : ¬ (256 : Int32) ≤ nI i := nI_ge (b := 256) (by omega) (by decide)
    have hle : ¬ nI p ≤ nI i := nI_ge (by omega) (by omega)
    have hne : ¬ nI i = nI p := by rw [nI_eq (by omega) (by omega)]; omega
    obtain ⟨r, hr, hfX, hfY⟩ := ap_first nw gt gf g ne ba ad dr co hA hL hj
    rcases hr with rfl | ⟨a, ha, rfl⟩
    · exact ⟨-1, fun post Q F hp => br_f hle (hfX _ Q F (br_f ap_neg1 hp)), fun post G hp => br_f h (hfY _ G (br_t ap_neg1' hp))⟩
    · obtain ⟨t, ht, et⟩ := ap_aftE (dr := dr) hj (hA a ha).1
      obtain ⟨r, hX, hY⟩ := ih (i + 1) (by omega) t ht
      have h0 : (0 : Int32) ≤ nI a := nI_pos' (by omega)
      have h0' : ¬ nI a < 0 := nI_pos (by omega)
      exact ⟨r, fun post Q F hp => br_f hle (hfX _ Q F (br_t h0 (ap_xAft ha et (nm_r (nI_1 i) (hX post Q F hp))))), fun post G hp => br_f h (hfY _ G (br_f h0' (br_f hne (ap_yAft ha ht et (nm_r (nI_1 i) (hY post G hp))))))⟩
/-- a place that no plan has: the reference goes on to the end, and answers -1 -/
theorem ap_planN (hA : ap_A g ad co) {L : Nat → Int32} (hL : ap_L L) {x : Int32} (hx : ∀ i, i < 256 → ¬ nI i = x) : ∀ d i : Nat, i + d = 256 → ∀ j, j < 256 →
    (∀ (post : Int32 → SY → Prop) (G : Nat → Int32), post (-1) (nw, gt, gf, g, ne, ba, ad, dr, co, L, G) → wY_planned_11 post x nw gt gf g ne ba ad dr co L G (d + 1) (nI j) (nI i)) := by
  intro d
  induction d with
  | zero =>
    intro i hi j hj post G hp
    have h : (256 : Int32) ≤ nI i := nI_le (a := 256) (by omega) (by omega)
    exact br_t h hp
  | succ d ih =>
    intro i hi j hj post G hp
    have h : ¬ (256 : Int32) ≤ nI i := nI_ge (b := 256) (by omega) (by decide)
    obtain ⟨r, hr, hfX, hfY⟩ := ap_first nw gt gf g ne ba ad dr co hA hL hj
    rcases hr with rfl | ⟨a, ha, rfl⟩
    · exact br_f h (hfY _ G (br_t ap_neg1' hp))
    · obtain ⟨t, ht, et⟩ := ap_aftE (dr := dr) hj (hA a ha).1
      have h0' : ¬ nI a < 0 := nI_pos (by omega)
      exact br_f h (hfY _ G (br_f h0' (br_f (hx i (by omega)) (ap_yAft ha ht et (nm_r (nI_1 i) (ih (i + 1) (by omega) t ht post G hp))))))
end
