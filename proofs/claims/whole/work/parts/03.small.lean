/-! the small methods: what can be done, what comes after -/
def ap_can (g ne ba : Nat → Int32) (a : Nat) (s : Int32) : Prop := ¬ g a = 0 ∧ ((s &&& ne a) = ne a ∧ (s &&& ba a) = 0)
def ap_aft (ad dr : Nat → Int32) (a : Nat) (s : Int32) : Int32 := (s &&& (dr a ^^^ (-1))) ||| ad a
/-- of the actions: the adds are sets of eight, the prices are from 0 to 50, of a given one from 1 -/
def ap_A (g ad co : Nat → Int32) : Prop := ∀ a, a < 10 → ap_b8 (ad a) ∧ ∃ c : Nat, c ≤ 50 ∧ co a = nI c ∧ (¬ g a = 0 → 1 ≤ c)
def ap_T (L : Nat → Int32) : Prop := ∀ i, 256 ≤ i → L i = 0
def ap_L (L : Nat → Int32) : Prop := (∀ s, s < 256 → ∃ l : Nat, l ≤ 1000000 ∧ L s = nI l) ∧ ap_T L
theorem ap_aftE {ad dr : Nat → Int32} {a j : Nat} (hj : j < 256) (h : ap_b8 (ad a)) : ∃ t, t < 256 ∧ ap_aft ad dr a (nI j) = nI t := by
  obtain ⟨t, ht, e⟩ := ap_aft8 (d := dr a ^^^ (-1)) ⟨j, hj, rfl⟩ h
  exact ⟨t, ht, e⟩
theorem ap_cla {a : Nat} (ha : a < 10) : (nI a).toNatClampNeg = a := nI_clamp (by omega)
theorem ap_ina {a : Nat} (ha : a < 10) : vp_in (nI a) 10 := vp_in_nI ha (by omega)
theorem ap_inj8 {j : Nat} (hj : j < 256) : vp_in (nI j) 256 := vp_in_nI hj (by omega)
theorem ap_T_upd {L : Nat → Int32} (h : ap_T L) {k : Nat} (hk : k < 256) (x : Int32) : ap_T (upd L k x) := fun i hi => by rw [pk_un (by omega)]; exact h i hi
theorem ap_nb {c : Int32} (h : c = 0 ∨ c = 1) : narrow .boolean (.int c) = .int c := by
  rcases h with rfl | rfl <;> rfl
theorem ap_v1 : vp_nar .boolean 1 = 1 := rfl
theorem ap_v0 : vp_nar .boolean 0 = 0 := rfl

section
variable {nw gt gf : Int32} {g ne ba ad dr co L Q F : Nat → Int32}
theorem ap_xCan {post : Int32 → Prop} {a : Nat} (ha : a < 10) {s : Int32} (h1 : ((s &&& ne a) = ne a ∧ (s &&& ba a) = 0) → post 1) (h0 : ¬ ((s &&& ne a) = ne a ∧ (s &&& ba a) = 0) → post 0) : wpX_canBeDone post (nw, gt, gf, g, ne, ba, ad, dr, co, L, Q, F) (nI a) s := by
  have hi := ap_ina ha
  unfold wpX_canBeDone
  dsimp only
  rw [ap_cla ha]
  exact ⟨hi, hi, br_c (fun e1 => ⟨hi, br_c (fun e2 => h1 ⟨e1, e2⟩) (fun e2 => h0 (fun z => e2 z.2))⟩) (fun e1 => h0 (fun z => e1 z.1))⟩
theorem ap_xAft {post : Int32 → Prop} {a : Nat} (ha : a < 10) {s t : Int32} (e : ap_aft ad dr a s = t) (h : post t) : wpX_stateAfter post (nw, gt, gf, g, ne, ba, ad, dr, co, L, Q, F) (nI a) s := by
  have hi := ap_ina ha
  unfold wpX_stateAfter
  dsimp only
  rw [ap_cla ha]
  subst e
  exact ⟨hi, hi, h⟩
theorem ap_xPT {post : Int32 → Prop} {a t : Nat} (ha : a < 10) {s v : Int32} (e : ap_aft ad dr a s = nI t) (ht : t < 256) (ev : co a + L t = v) (h1 : ap_can g ne ba a s → post v) (h0 : ¬ ap_can g ne ba a s → post 1000000) : wpX_priceThrough post (nw, gt, gf, g, ne, ba, ad, dr, co, L, Q, F) (nI a) s := by
  have hi := ap_ina ha
  have ht' := ap_inj8 ht
  unfold wpX_priceThrough
  dsimp only
  rw [ap_cla ha]
  refine ⟨hi, br_c (fun g0 => h0 (fun z => z.1 g0)) (fun g1 => ap_xCan ha (fun c => br_f (by decide) (ap_xAft ha e ⟨hi, ht', ?_⟩)) (fun c => br_t rfl (h0 (fun z => c z.2))))⟩
  rw [ap_cl ht, ev]
  exact h1 ⟨g1, c⟩
theorem ap_xGivenN {post : Int32 → Prop} {x : Int32} (h : post 0) (hx : x < 0 ∨ nI 10 ≤ x) : wpX_isGiven post (nw, gt, gf, g, ne, ba, ad, dr, co, L, Q, F) x := by
  unfold wpX_isGiven
  dsimp only
  by_cases h0 : x < 0
  · exact br_t h0 h
  · rcases hx with hx | hx
    · exact absurd hx h0
    · exact br_f h0 (br_t hx h)
theorem ap_lt10 {a : Nat} (ha : a < 10) : ¬ (10 : Int32) ≤ nI a := nI_ge (b := 10) ha (by decide)
theorem ap_xGiven {post : Int32 → Prop} {a : Nat} (ha : a < 10) (h0 : g a = 0 → post 0) (h1 : ¬ g a = 0 → post 1) : wpX_isGiven post (nw, gt, gf, g, ne, ba, ad, dr, co, L, Q, F) (nI a) := by
  unfold wpX_isGiven
  dsimp only
  rw [ap_cla ha]
  exact br_f (nI_pos (by omega)) (br_f (ap_lt10 ha) ⟨ap_ina ha, br_c h0 h1⟩)
end

section
variable {nw gt gf : Int32} {g ne ba ad dr co M G : Nat → Int32}
theorem ap_yCan {post : Int32 → Prop} {a : Nat} (ha : a < 10) {s : Int32} (h1 : ap_can g ne ba a s → post 1) (h0 : ¬ ap_can g ne ba a s → post 0) : wpY_canDo post (nw, gt, gf, g, ne, ba, ad, dr, co, M, G) (nI a) s := by
  have hi := ap_ina ha
  unfold wpY_canDo
  dsimp only
  rw [ap_cla ha]
  exact ⟨hi, br_c (fun g0 => h0 (fun z => z.1 g0)) (fun g1 => ⟨hi, hi, br_c (fun e1 => ⟨hi, br_c (fun e2 => h1 ⟨g1, e1, e2⟩) (fun e2 => h0 (fun z => e2 z.2.2))⟩) (fun e1 => h0 (fun z => e1 z.2.1))⟩)⟩
theorem ap_yAft {post : Int32 → Prop} {a j t : Nat} (ha : a < 10) (ht : t < 256) (e : ap_aft ad dr a (nI j) = nI t) (h : post (nI t)) : wpY_after post (nw, gt, gf, g, ne, ba, ad, dr, co, M, G) (nI a) (nI j) := by
  have hi := ap_ina ha
  unfold wpY_after
  dsimp only
  rw [ap_cla ha]
  refine ⟨hi, hi, ?_⟩
  unfold ap_aft at e
  rw [e, ap_255 ⟨t, ht, rfl⟩]
  exact h
theorem ap_yBad {post : Int32 → Prop} {x : Int32} (h : post 1) (hx : x < 0 ∨ nI 10 ≤ x) : wpY_bad post x := by
  unfold wpY_bad
  by_cases h0 : x < 0
  · exact br_t h0 h
  · rcases hx with hx | hx
    · exact absurd hx h0
    · refine br_f h0 (br_f (fun z => ?_) h)
      have h9 : (9 : Int32) < nI 10 := by decide
      exact Int32.lt_irrefl (Int32.lt_of_lt_of_le h9 (Int32.le_trans hx z))
theorem ap_yGood {post : Int32 → Prop} {a : Nat} (ha : a < 10) (h : post 0) : wpY_bad post (nI a) := by
  unfold wpY_bad
  exact br_f (nI_pos (by omega)) (br_t (nI_le (b := 9) (by omega) (by decide)) h)
end
