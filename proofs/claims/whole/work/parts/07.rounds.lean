/-! what can be reached: the reference's rounds -/
section
variable (nw gt gf : Int32) (g ne ba ad dr co : Nat → Int32)
/-- how a set stands to the one it came from: the same and gone through, or greater -/
def ap_gr (C : Prop) (G0 G : Nat → Int32) (m : Int32) : Prop := (m = 0 ∧ G = G0 ∧ C) ∨ (m = 1 ∧ ap_cnt G0 256 < ap_cnt G 256)
theorem ap_gr01 {C : Prop} {G0 G : Nat → Int32} {m : Int32} (h : ap_gr C G0 G m) : m = 0 ∨ m = 1 := by
  rcases h with h | h
  · exact Or.inl h.1
  · exact Or.inr h.1
theorem ap_gr_imp {C D : Prop} {G0 G : Nat → Int32} {m : Int32} (h : ap_gr C G0 G m) (hi : C → D) : ap_gr D G0 G m := by
  rcases h with h | h
  · exact Or.inl ⟨h.1, h.2.1, hi h.2.2⟩
  · exact Or.inr h
theorem ap_ySpr (hA : ap_A g ad co) (M : Nat → Int32) {s0 s : Nat} (hs : s < 256) (G0 : Nat → Int32) (post : Int32 → SY → Prop)
    (hpost : ∀ (m : Int32) (G : Nat → Int32), ap_snd (ap_R g ne ba ad dr) s0 G → ap_gr (ap_cov g ne ba ad dr s 10 G0) G0 G m → post m (nw, gt, gf, g, ne, ba, ad, dr, co, M, G)) :
    ∀ d a : Nat, a + d = 10 → ∀ (m : Int32) (G : Nat → Int32), ap_snd (ap_R g ne ba ad dr) s0 G → ¬ G s = 0 → ap_gr (ap_cov g ne ba ad dr s a G0) G0 G m →
      wY_spread_4 post (nI s) nw gt gf (d + 1) m (nI a) g ne ba ad dr co M G := by
  intro d
  induction d with
  | zero =>
    intro a ha m G hG hGs hI
    have e : a = 10 := by omega
    subst e
    have h : (10 : Int32) ≤ nI 10 := nI_le (a := 10) (by omega) (by omega)
    exact br_t h ⟨ap_nb (ap_gr01 hI), hpost m G hG hI⟩
  | succ d ih =>
    intro a had m G hG hGs hI
    have ha : a < 10 := by omega
    have h := ap_lt10 ha
    obtain ⟨t, ht, et⟩ := ap_aftE (dr := dr) hs (hA a ha).1
    have hit := ap_inj8 ht
    refine br_f h (ap_yAft ha ht et (ap_yCan ha (fun hc => br_f (by decide) ⟨hit, br_c (fun f0 => ?_) (fun f1 => nm_r (nI_1 a) ?_)⟩) (fun hc => br_t rfl (nm_r (nI_1 a) (ih (a + 1) (by omega) m G hG hGs (ap_gr_imp hI (fun z => ap_cov_no g ne ba ad dr z hc)))))))
    · rw [ap_cl ht] at f0
      have h1 : ¬ (1 : Int32) = 0 := by decide
      have eF : upd G (nI t).toNatClampNeg (vp_nar .boolean 1) = upd G t 1 := by rw [ap_cl ht, ap_v1]
      refine ⟨hit, nm_r eF (nm_r (nI_1 a) (ih (a + 1) (by omega) 1 (upd G t 1) (ap_snd_add hG h1 hs ht hGs ⟨a, ha, hc, et⟩) (ap_ne_upd h1 hGs) (Or.inr ⟨rfl, ?_⟩)))⟩
      rw [ap_cnt_upd f0 h1 256 ht]
      rcases hI with hI | hI
      · rw [hI.2.1]; omega
      · have := hI.2; omega
    · rw [ap_cl ht] at f1
      refine ih (a + 1) (by omega) m G hG hGs ?_
      rcases hI with hI | hI
      · refine Or.inl ⟨hI.1, hI.2.1, ap_cov_in g ne ba ad dr hI.2.2 ht et ?_⟩
        rw [← hI.2.1]
        exact f1
      · exact Or.inr hI
/-- the states below s are gone through -/
def ap_thr (g ne ba ad dr : Nat → Int32) (s : Nat) (G : Nat → Int32) : Prop := ∀ x y, x < s → x < 256 → y < 256 → ¬ G x = 0 → ap_R g ne ba ad dr x y → ¬ G y = 0
theorem ap_thr_s {s : Nat} {G : Nat → Int32} (h : ap_thr g ne ba ad dr s G) (hs : ¬ G s = 0 → ∀ y, y < 256 → ap_R g ne ba ad dr s y → ¬ G y = 0) : ap_thr g ne ba ad dr (s + 1) G := by
  intro x y hx hx6 hy hG hr
  by_cases e : x = s
  · rw [e] at hG hr
    exact hs hG y hy hr
  · exact h x y (by omega) hx6 hy hG hr
theorem ap_yRnd (hA : ap_A g ad co) (M : Nat → Int32) {s0 : Nat} (G0 : Nat → Int32) (post : Int32 → SY → Prop) (J : Int32 → Int32 → Int32 → Int32 → Int32 → (Nat → Int32) → (Nat → Int32) → (Nat → Int32) → (Nat → Int32) → (Nat → Int32) → (Nat → Int32) → (Nat → Int32) → (Nat → Int32) → Prop) (x2 : Int32)
    (hJ : ∀ (m : Int32) (G : Nat → Int32), ap_snd (ap_R g ne ba ad dr) s0 G → ap_gr (ap_thr g ne ba ad dr 256 G0) G0 G m → J m (x2 + 1) nw gt gf g ne ba ad dr co M G) :
    ∀ d s : Nat, s + d = 256 → ∀ (m : Int32) (G : Nat → Int32), ap_snd (ap_R g ne ba ad dr) s0 G → ap_gr (ap_thr g ne ba ad dr s G0) G0 G m →
      wY_reachable_53 post J x2 (d + 1) m (nI s) nw gt gf g ne ba ad dr co M G := by
  intro d
  induction d with
  | zero =>
    intro s hs m G hG hI
    have e : s = 256 := by omega
    subst e
    have h : (256 : Int32) ≤ nI 256 := nI_le (a := 256) (by omega) (by omega)
    exact br_t h (nm_e (hJ m G hG hI))
  | succ d ih =>
    intro s hs m G hG hI
    have hs6 : s < 256 := by omega
    have h : ¬ (256 : Int32) ≤ nI s := nI_ge (b := 256) hs6 (by decide)
    refine br_f h ⟨ap_inj8 hs6, br_c (fun f0 => nm_r (nI_1 s) (ih (s + 1) (by omega) m G hG ?_)) (fun f1 => ?_)⟩
    · rw [ap_cl hs6] at f0
      rcases hI with hI | hI
      · refine Or.inl ⟨hI.1, hI.2.1, ap_thr_s g ne ba ad dr hI.2.2 (fun z => ?_)⟩
        rw [hI.2.1] at f0
        exact absurd f0 z
      · exact Or.inr hI
    · rw [ap_cl hs6] at f1
      refine Exists.intro 11 (ap_ySpr nw gt gf g ne ba ad dr co hA M hs6 G _ (fun m' G' hG' hI' => ?_) 10 0 (by omega) 0 G hG f1 (Or.inl ⟨rfl, rfl, fun b t hb => absurd hb (by omega)⟩))
      rcases hI' with ⟨rfl, rfl, hc⟩ | ⟨rfl, hlt⟩
      · refine br_t rfl (nm_r (nI_1 s) (ih (s + 1) (by omega) m G' hG' ?_))
        rcases hI with hI | hI
        · refine Or.inl ⟨hI.1, hI.2.1, ap_thr_s g ne ba ad dr hI.2.2 (fun z => ?_)⟩
          rw [← hI.2.1]
          exact ap_cov_end g ne ba ad dr hc
        · exact Or.inr hI
      · refine br_f (by decide) (nm_r (nI_1 s) (ih (s + 1) (by omega) 1 G' hG' (Or.inr ⟨rfl, ?_⟩)))
        rcases hI with hI | hI
        · rw [← hI.2.1]; exact hlt
        · have := hI.2; omega
theorem ap_yOut (hA : ap_A g ad co) (M : Nat → Int32) {s0 : Nat} (post : Int32 → SY → Prop)
    (hpost : ∀ G : Nat → Int32, ap_clo (ap_R g ne ba ad dr) s0 G → ∃ n : Nat, wY_reachable_95 post nw gt gf g ne ba ad dr co M G n 0 0) :
    ∀ d r : Nat, r + d = 256 → ∀ (m : Int32) (G : Nat → Int32), ap_snd (ap_R g ne ba ad dr) s0 G → ((m = 0 ∧ ap_thr g ne ba ad dr 256 G) ∨ (m = 1 ∧ r < ap_cnt G 256)) →
      wY_reachable_38 post (d + 1) m (nI r) nw gt gf g ne ba ad dr co M G := by
  intro d
  induction d with
  | zero =>
    intro r hr m G hG hI
    have h : (256 : Int32) ≤ nI r := nI_le (a := 256) (by omega) (by omega)
    rcases hI with hI | hI
    · exact br_t h (hpost G ⟨hG, fun x y hx hy => hI.2 x y hx hx hy⟩)
    · have := ap_cnt_le G 256
      have := hI.2
      omega
  | succ d ih =>
    intro r hr m G hG hI
    have h : ¬ (256 : Int32) ≤ nI r := nI_ge (b := 256) (by omega) (by decide)
    rcases hI with ⟨rfl, hI⟩ | ⟨rfl, hI⟩
    · exact br_f h (br_t rfl (hpost G ⟨hG, fun x y hx hy => hI x y hx hx hy⟩))
    · refine br_f h (br_f (by decide) (Exists.intro 257 (ap_yRnd nw gt gf g ne ba ad dr co hA M G post _ (nI r) (fun m' G' hG' hI' => ?_) 256 0 (by omega) 0 G hG (Or.inl ⟨rfl, rfl, fun x y hx => absurd hx (by omega)⟩))))
      rw [nI_1 r]
      refine ih (r + 1) (by omega) m' G' hG' ?_
      rcases hI' with ⟨rfl, rfl, hc⟩ | ⟨rfl, hlt⟩
      · exact Or.inl ⟨rfl, hc⟩
      · exact Or.inr ⟨rfl, by omega⟩
theorem ap_yCnt (M G : Nat → Int32) (post : Int32 → SY → Prop) (hp : post (nI (ap_cnt G 256)) (nw, gt, gf, g, ne, ba, ad, dr, co, M, G)) :
    ∀ d s : Nat, s + d = 256 → wY_reachable_95 post nw gt gf g ne ba ad dr co M G (d + 1) (nI (ap_cnt G s)) (nI s) := by
  intro d
  induction d with
  | zero =>
    intro s hs
    have e : s = 256 := by omega
    subst e
    have h : (256 : Int32) ≤ nI 256 := nI_le (a := 256) (by omega) (by omega)
    exact br_t h hp
  | succ d ih =>
    intro s hs
    have hs6 : s < 256 := by omega
    have h : ¬ (256 : Int32) ≤ nI s := nI_ge (b := 256) hs6 (by decide)
    have hi := ih (s + 1) (by omega)
    refine br_f h ⟨ap_inj8 hs6, br_c (fun f0 => nm_r (nI_1 s) ?_) (fun f1 => nm_r (nI_1 _) (nm_r (nI_1 s) ?_))⟩
    · rw [ap_cl hs6] at f0
      rw [ap_cnt_s, if_pos f0] at hi
      exact hi
    · rw [ap_cl hs6] at f1
      rw [ap_cnt_s, if_neg f1] at hi
      exact hi
theorem ap_yIni (M : Nat → Int32) (post : Int32 → SY → Prop) {j : Nat} (hj : j < 256)
    (hpost : ∀ G : Nat → Int32, (∀ i, i < 256 → G i = if i = j then 1 else 0) → ∃ n : Nat, wY_reachable_38 post n 1 0 (nI j) gt gf g ne ba ad dr co M G) :
    ∀ d s : Nat, s + d = 256 → ∀ G : Nat → Int32, (∀ i, i < s → G i = if i = j then 1 else 0) → wY_reachable_2 post (nI j) gt gf (d + 1) (nI s) g ne ba ad dr co M G := by
  intro d
  induction d with
  | zero =>
    intro s hs G hG
    have h : (256 : Int32) ≤ nI s := nI_le (a := 256) (by omega) (by omega)
    exact br_t h (hpost G (fun i hi => hG i (by omega)))
  | succ d ih =>
    intro s hs G hG
    have hs6 : s < 256 := by omega
    have h : ¬ (256 : Int32) ≤ nI s := nI_ge (b := 256) hs6 (by decide)
    have e0 : upd G (nI s).toNatClampNeg (vp_nar .boolean 0) = upd G s 0 := by rw [ap_cl hs6, ap_v0]
    have e1 : upd G (nI s).toNatClampNeg (vp_nar .boolean 1) = upd G s 1 := by rw [ap_cl hs6, ap_v1]
    refine br_f h (br_c (fun c1 => ⟨ap_inj8 hs6, nm_r e1 (nm_r (nI_1 s) (ih (s + 1) (by omega) _ (fun i hi => ?_)))⟩) (fun c0 => ⟨ap_inj8 hs6, nm_r e0 (nm_r (nI_1 s) (ih (s + 1) (by omega) _ (fun i hi => ?_)))⟩))
    · have := ap_inj hs6 hj c1
      by_cases e : i = s
      · rw [e, pk_us, if_pos this]
      · rw [pk_un e]; exact hG i (by omega)
    · by_cases e : i = s
      · rw [e, pk_us, if_neg (fun z => c0 (by rw [z]))]
      · rw [pk_un e]; exact hG i (by omega)
theorem ap_yReach (hA : ap_A g ad co) (M G : Nat → Int32) (post : Int32 → SY → Prop) {j : Nat} (hj : j < 256)
    (hpost : ∀ G : Nat → Int32, ap_clo (ap_R g ne ba ad dr) j G → post (nI (ap_cnt G 256)) (nI j, gt, gf, g, ne, ba, ad, dr, co, M, G)) : wpY_reachable post (nI j, gt, gf, g, ne, ba, ad, dr, co, M, G) := by
  refine Exists.intro 257 (ap_yIni gt gf g ne ba ad dr co M post hj (fun G' hG' => Exists.intro 257 (ap_yOut (nI j) gt gf g ne ba ad dr co hA M (s0 := j) post (fun G2 hc => Exists.intro 257 (ap_yCnt (nI j) gt gf g ne ba ad dr co M G2 post (hpost G2 hc) 256 0 (by omega))) 256 0 (by omega) 1 G' (ap_snd_0 ?_ ?_) (Or.inr ⟨rfl, ?_⟩))) 256 0 (by omega) G (fun i hi => absurd hi (by omega)))
  · rw [hG' j hj, if_pos rfl]; decide
  · intro s hs e
    rw [hG' s hs, if_neg e]
  · refine Nat.pos_of_ne_zero (fun z => ?_)
    have h0 : ap_cnt (upd G' j 0) 256 + 1 = ap_cnt G' 256 := by
      have h2 := ap_cnt_upd (F := upd G' j 0) (k := j) (x := 1) pk_us (by decide) 256 hj
      rw [← h2]
      refine ap_cnt_eq 256 (fun s hs => ?_)
      by_cases e : s = j
      · rw [e, pk_us, hG' j hj, if_pos rfl]
      · rw [pk_un e, pk_un e]
    omega
end
