/-! the least prices: both sides in lockstep, over one array -/
theorem ap_L_upd {L : Nat → Int32} (h : ap_L L) {k l : Nat} (hk : k < 256) (hl : l ≤ 1000000) : ap_L (upd L k (nI l)) := by
  refine ⟨fun s hs => ?_, ap_T_upd h.2 hk _⟩
  by_cases e : s = k
  · exact ⟨l, hl, by rw [e, pk_us]⟩
  · obtain ⟨m, hm, em⟩ := h.1 s hs
    exact ⟨m, hm, by rw [pk_un e]; exact em⟩
section
variable (nw gt gf : Int32) (g ne ba ad dr co : Nat → Int32)
theorem ap_inner (hA : ap_A g ad co) {j : Nat} (hj : j < 256) : ∀ d a : Nat, a + d = 10 → ∀ L : Nat → Int32, ap_L L → ∃ (L' : Nat → Int32) (m : Bool), ap_L L' ∧
    (∀ (post : Int32 → SX → Prop) (J : Int32 → Int32 → (Nat → Int32) → (Nat → Int32) → (Nat → Int32) → (Nat → Int32) → (Nat → Int32) → (Nat → Int32) → (Nat → Int32) → (Nat → Int32) → (Nat → Int32) → Prop) (c : Int32) (Q F : Nat → Int32), J (cond m 1 c) (nI (j + 1)) g ne ba ad dr co L' Q F → wX_lowerPrices_13 post J (nI j) nw gt gf (d + 1) c (nI a) g ne ba ad dr co L Q F) ∧
    (∀ (post : Int32 → SY → Prop) (c : Int32) (G : Nat → Int32), (c = 0 ∨ c = 1) → post (cond m 1 c) (nw, gt, gf, g, ne, ba, ad, dr, co, L', G) → wY_lower_4 post (nI j) nw gt gf (d + 1) c (nI a) g ne ba ad dr co L G) := by
  intro d
  induction d with
  | zero =>
    intro a ha L hL
    have h : (10 : Int32) ≤ nI a := nI_le (a := 10) (by omega) (by omega)
    exact ⟨L, false, hL, fun post J c Q F hp => br_t h (nm_r (nI_1 j) hp), fun post c G hc hp => br_t h ⟨ap_nb hc, hp⟩⟩
  | succ d ih =>
    intro a had L hL
    have ha : a < 10 := by omega
    have h := ap_lt10 ha
    have ea := ap_cla ha
    have ej := ap_cl hj
    have hia := ap_ina ha
    have hij := ap_inj8 hj
    obtain ⟨hAa, c0, hc0, ec, _⟩ := hA a ha
    obtain ⟨t, ht, et⟩ := ap_aftE (dr := dr) hj hAa
    have hit := ap_inj8 ht
    obtain ⟨l, hl, el⟩ := hL.1 j hj
    obtain ⟨l2, hl2, el2⟩ := hL.1 t ht
    have ev : co a + L t = nI (c0 + l2) := by rw [ec, el2, nI_add]
    have evY : co (nI a).toNatClampNeg + L (nI t).toNatClampNeg = nI (c0 + l2) := by rw [ea, ap_cl ht]; exact ev
    have elj : L (nI j).toNatClampNeg = nI l := by rw [ej]; exact el
    by_cases hc : ap_can g ne ba a (nI j)
    · by_cases hle : l ≤ c0 + l2
      · have hle' : L (nI j).toNatClampNeg ≤ nI (c0 + l2) := by rw [elj]; exact nI_le hle (by omega)
        obtain ⟨L', m, hL', hX, hY⟩ := ih (a + 1) (by omega) L hL
        refine ⟨L', m, hL', fun post J c Q F hp => br_f h (ap_xPT ha et ht ev (fun _ => ⟨hij, br_t hle' (nm_r (nI_1 a) (hX post J c Q F hp))⟩) (fun z => absurd hc z)), fun post c G hc' hp => br_f h (ap_yAft ha ht et ⟨hia, hit, nm_r evY (ap_yCan ha (fun _ => br_f (by decide) ⟨hij, br_t hle' (nm_r (nI_1 a) (hY post c G hc' hp))⟩) (fun z => absurd hc z))⟩)⟩
      · have hle' : ¬ L (nI j).toNatClampNeg ≤ nI (c0 + l2) := by rw [elj]; exact nI_ge (by omega) (by omega)
        have eU : upd L (nI j).toNatClampNeg (nI (c0 + l2)) = upd L j (nI (c0 + l2)) := by rw [ej]
        obtain ⟨L', m, hL', hX, hY⟩ := ih (a + 1) (by omega) (upd L j (nI (c0 + l2))) (ap_L_upd hL hj (by omega))
        have em : cond m (1 : Int32) 1 = 1 := by cases m <;> rfl
        refine ⟨L', true, hL', fun post J c Q F hp => br_f h (ap_xPT ha et ht ev (fun _ => ⟨hij, br_f hle' ⟨hij, nm_r eU (nm_r (nI_1 a) (hX post J 1 Q F (by rw [em]; exact hp)))⟩⟩) (fun z => absurd hc z)), fun post c G hc' hp => br_f h (ap_yAft ha ht et ⟨hia, hit, nm_r evY (ap_yCan ha (fun _ => br_f (by decide) ⟨hij, br_f hle' ⟨hij, nm_r eU (nm_r (nI_1 a) (hY post 1 G (Or.inr rfl) (by rw [em]; exact hp)))⟩⟩) (fun z => absurd hc z))⟩)⟩
    · have hle' : L (nI j).toNatClampNeg ≤ 1000000 := by rw [elj]; exact nI_le (b := 1000000) hl (by decide)
      obtain ⟨L', m, hL', hX, hY⟩ := ih (a + 1) (by omega) L hL
      refine ⟨L', m, hL', fun post J c Q F hp => br_f h (ap_xPT ha et ht ev (fun z => absurd z hc) (fun _ => ⟨hij, br_t hle' (nm_r (nI_1 a) (hX post J c Q F hp))⟩)), fun post c G hc' hp => br_f h (ap_yAft ha ht et ⟨hia, hit, nm_r evY (ap_yCan ha (fun z => absurd z hc) (fun _ => br_t rfl (nm_r (nI_1 a) (hY post c G hc' hp))))⟩)⟩
theorem ap_c01 {m : Bool} {c : Int32} (h : c = 0 ∨ c = 1) : cond m 1 c = 0 ∨ cond m 1 c = 1 := by
  cases m
  · exact h
  · exact Or.inr rfl
theorem ap_mid (hA : ap_A g ad co) : ∀ d s : Nat, s + d = 256 → ∀ L : Nat → Int32, ap_L L → ∀ c : Int32, (c = 0 ∨ c = 1) → ∃ (L' : Nat → Int32) (c' : Int32), ap_L L' ∧ (c' = 0 ∨ c' = 1) ∧
    (∀ (post : Int32 → SX → Prop) (Q F : Nat → Int32), post c' (nw, gt, gf, g, ne, ba, ad, dr, co, L', Q, F) → wX_lowerPrices_4 post nw gt gf (d + 1) c (nI s) g ne ba ad dr co L Q F) ∧
    (∀ (post : SY → Prop) (J : Int32 → Int32 → Int32 → Int32 → Int32 → (Nat → Int32) → (Nat → Int32) → (Nat → Int32) → (Nat → Int32) → (Nat → Int32) → (Nat → Int32) → (Nat → Int32) → (Nat → Int32) → Prop) (x2 : Int32) (G : Nat → Int32), J c' (x2 + 1) nw gt gf g ne ba ad dr co L' G → wY_work_54 post J x2 (d + 1) c (nI s) nw gt gf g ne ba ad dr co L G) := by
  intro d
  induction d with
  | zero =>
    intro s hs L hL c hc
    have h : (256 : Int32) ≤ nI s := nI_le (a := 256) (by omega) (by omega)
    exact ⟨L, c, hL, hc, fun post Q F hp => br_t h ⟨ap_nb hc, hp⟩, fun post J x2 G hp => br_t h (nm_e hp)⟩
  | succ d ih =>
    intro s hs L hL c hc
    have h : ¬ (256 : Int32) ≤ nI s := nI_ge (b := 256) (by omega) (by decide)
    obtain ⟨L1, m, hL1, hX1, hY1⟩ := ap_inner nw gt gf g ne ba ad dr co hA (j := s) (by omega) 10 0 (by omega) L hL
    obtain ⟨L', c', hL', hc', hX, hY⟩ := ih (s + 1) (by omega) L1 hL1 (cond m 1 c) (ap_c01 hc)
    refine ⟨L', c', hL', hc', fun post Q F hp => br_f h (Exists.intro 11 (hX1 post _ c Q F (hX post Q F hp))), fun post J x2 G hp => br_f h (Exists.intro 11 (hY1 _ 0 G (Or.inl rfl) ?_))⟩
    cases m
    · exact br_t rfl (nm_r (nI_1 s) (hY post J x2 G hp))
    · exact br_f (by decide) (nm_r (nI_1 s) (hY post J x2 G hp))
theorem ap_rounds (hA : ap_A g ad co) : ∀ d r : Nat, r + d = 256 → ∀ L : Nat → Int32, ap_L L → ∀ c : Int32, (c = 0 ∨ c = 1) → ∃ (L' : Nat → Int32), ap_L L' ∧
    (∀ (post : SX → Prop) (Q F : Nat → Int32), post (nw, gt, gf, g, ne, ba, ad, dr, co, L', Q, F) → wX_findLeastPrices_39 post (d + 1) c (nI r) nw gt gf g ne ba ad dr co L Q F) ∧
    (∀ (post : SY → Prop) (G : Nat → Int32), post (nw, gt, gf, g, ne, ba, ad, dr, co, L', G) → wY_work_39 post (d + 1) c (nI r) nw gt gf g ne ba ad dr co L G) := by
  intro d
  induction d with
  | zero =>
    intro r hr L hL c hc
    have h : (256 : Int32) ≤ nI r := nI_le (a := 256) (by omega) (by omega)
    exact ⟨L, hL, fun post Q F hp => br_t h hp, fun post G hp => br_t h hp⟩
  | succ d ih =>
    intro r hr L hL c hc
    have h : ¬ (256 : Int32) ≤ nI r := nI_ge (b := 256) (by omega) (by decide)
    rcases hc with rfl | rfl
    · exact ⟨L, hL, fun post Q F hp => br_f h (br_t rfl hp), fun post G hp => br_f h (br_t rfl hp)⟩
    · obtain ⟨L1, c1, hL1, hc1, hX1, hY1⟩ := ap_mid nw gt gf g ne ba ad dr co hA 256 0 (by omega) L hL 0 (Or.inl rfl)
      obtain ⟨L', hL', hX, hY⟩ := ih (r + 1) (by omega) L1 hL1 c1 hc1
      exact ⟨L', hL', fun post Q F hp => br_f h (br_f (by decide) (Exists.intro 257 (hX1 _ Q F (nm_r (nI_1 r) (hX post Q F hp))))), fun post G hp => br_f h (br_f (by decide) (Exists.intro 257 (hY1 post _ (nI r) G (by rw [nI_1 r]; exact hY post G hp))))⟩
/-- the array at the start of the rounds -/
def ap_I (gt gf : Int32) (s : Nat) : Int32 := if s < 256 then (if ((nI s &&& gt) = gt ∧ (nI s &&& gf) = 0) then 0 else 1000000) else 0
theorem ap_I_L : ap_L (ap_I gt gf) := by
  refine ⟨fun s hs => ?_, fun i hi => if_neg (by omega)⟩
  unfold ap_I
  rw [if_pos hs]
  split
  · exact ⟨0, by omega, rfl⟩
  · exact ⟨1000000, by omega, rfl⟩
theorem ap_I_1 {s : Nat} (hs : s < 256) (h : (nI s &&& gt) = gt ∧ (nI s &&& gf) = 0) : ap_I gt gf s = 0 := by
  unfold ap_I
  rw [if_pos hs, if_pos h]
theorem ap_I_0 {s : Nat} (hs : s < 256) (h : ¬ ((nI s &&& gt) = gt ∧ (nI s &&& gf) = 0)) : ap_I gt gf s = 1000000 := by
  unfold ap_I
  rw [if_pos hs, if_neg h]
/-- the array so far: s of the states set -/
def ap_P (gt gf : Int32) (s : Nat) (L : Nat → Int32) : Prop := (∀ i, i < s → L i = ap_I gt gf i) ∧ ap_T L
theorem ap_P_end {L : Nat → Int32} {s : Nat} (hs : s = 256) (h : ap_P gt gf s L) : L = ap_I gt gf := by
  funext i
  by_cases hi : i < 256
  · exact h.1 i (by omega)
  · rw [h.2 i (by omega)]
    exact (if_neg hi).symm
theorem ap_P_s {L : Nat → Int32} {s : Nat} {x : Int32} (hs : s < 256) (h : ap_P gt gf s L) (hx : ap_I gt gf s = x) : ap_P gt gf (s + 1) (upd L s x) := by
  refine ⟨fun i hi => ?_, ap_T_upd h.2 hs x⟩
  by_cases e : i = s
  · rw [e, pk_us, hx]
  · rw [pk_un e]; exact h.1 i (by omega)
theorem ap_xInit (post : SX → Prop) (Q F : Nat → Int32) {n : Nat} (hn : wX_findLeastPrices_39 post n 1 0 nw gt gf g ne ba ad dr co (ap_I gt gf) Q F) : ∀ d s : Nat, s + d = 256 → ∀ L : Nat → Int32, ap_P gt gf s L → wX_findLeastPrices_2 post nw gt gf (d + 1) (nI s) g ne ba ad dr co L Q F := by
  intro d
  induction d with
  | zero =>
    intro s hs L hL
    have h : (256 : Int32) ≤ nI s := nI_le (a := 256) (by omega) (by omega)
    rw [ap_P_end gt gf (by omega) hL]
    exact br_t h (Exists.intro n hn)
  | succ d ih =>
    intro s hs L hL
    have h : ¬ (256 : Int32) ≤ nI s := nI_ge (b := 256) (by omega) (by decide)
    have hs' : s < 256 := by omega
    have e0 : upd L (nI s).toNatClampNeg 1000000 = upd L s 1000000 := by rw [ap_cl hs']
    have e1 : upd L (nI s).toNatClampNeg 0 = upd L s 0 := by rw [ap_cl hs']
    refine br_f h (br_c (fun h1 => br_c (fun h2 => br_f (by decide) ⟨ap_inj8 hs', nm_r e1 (nm_r (nI_1 s) (ih (s + 1) (by omega) _ (ap_P_s gt gf hs' hL (ap_I_1 gt gf hs' ⟨h1, h2⟩))))⟩) (fun h2 => br_t rfl ⟨ap_inj8 hs', nm_r e0 (nm_r (nI_1 s) (ih (s + 1) (by omega) _ (ap_P_s gt gf hs' hL (ap_I_0 gt gf hs' (fun z => h2 z.2)))))⟩)) (fun h1 => br_t rfl ⟨ap_inj8 hs', nm_r e0 (nm_r (nI_1 s) (ih (s + 1) (by omega) _ (ap_P_s gt gf hs' hL (ap_I_0 gt gf hs' (fun z => h1 z.1)))))⟩))
theorem ap_yInit (post : SY → Prop) (G : Nat → Int32) {n : Nat} (hn : wY_work_39 post n 1 0 nw gt gf g ne ba ad dr co (ap_I gt gf) G) : ∀ d s : Nat, s + d = 256 → ∀ L : Nat → Int32, ap_P gt gf s L → wY_work_2 post nw gt gf (d + 1) (nI s) g ne ba ad dr co L G := by
  intro d
  induction d with
  | zero =>
    intro s hs L hL
    have h : (256 : Int32) ≤ nI s := nI_le (a := 256) (by omega) (by omega)
    rw [ap_P_end gt gf (by omega) hL]
    exact br_t h (Exists.intro n hn)
  | succ d ih =>
    intro s hs L hL
    have h : ¬ (256 : Int32) ≤ nI s := nI_ge (b := 256) (by omega) (by decide)
    have hs' : s < 256 := by omega
    have e0 : upd L (nI s).toNatClampNeg 1000000 = upd L s 1000000 := by rw [ap_cl hs']
    have e1 : upd L (nI s).toNatClampNeg 0 = upd L s 0 := by rw [ap_cl hs']
    refine br_f h (br_c (fun h1 => br_c (fun h2 => br_f (by decide) ⟨ap_inj8 hs', nm_r e1 (nm_r (nI_1 s) (ih (s + 1) (by omega) _ (ap_P_s gt gf hs' hL (ap_I_1 gt gf hs' ⟨h1, h2⟩))))⟩) (fun h2 => br_t rfl ⟨ap_inj8 hs', nm_r e0 (nm_r (nI_1 s) (ih (s + 1) (by omega) _ (ap_P_s gt gf hs' hL (ap_I_0 gt gf hs' (fun z => h2 z.2)))))⟩)) (fun h1 => br_t rfl ⟨ap_inj8 hs', nm_r e0 (nm_r (nI_1 s) (ih (s + 1) (by omega) _ (ap_P_s gt gf hs' hL (ap_I_0 gt gf hs' (fun z => h1 z.1)))))⟩))
/-- both sides find one array of least prices -/
theorem ap_work (hA : ap_A g ad co) : ∃ L' : Nat → Int32, ap_L L' ∧
    (∀ (post : SX → Prop) (L Q F : Nat → Int32), ap_T L → post (nw, gt, gf, g, ne, ba, ad, dr, co, L', Q, F) → wpX_findLeastPrices post (nw, gt, gf, g, ne, ba, ad, dr, co, L, Q, F)) ∧
    (∀ (post : SY → Prop) (M G : Nat → Int32), ap_T M → post (nw, gt, gf, g, ne, ba, ad, dr, co, L', G) → wpY_work post (nw, gt, gf, g, ne, ba, ad, dr, co, M, G)) := by
  obtain ⟨L', hL', hX, hY⟩ := ap_rounds nw gt gf g ne ba ad dr co hA 256 0 (by omega) (ap_I gt gf) (ap_I_L gt gf) 1 (Or.inr rfl)
  exact ⟨L', hL', fun post L Q F hT hp => Exists.intro 257 (ap_xInit nw gt gf g ne ba ad dr co post Q F (hX post Q F hp) 256 0 (by omega) L ⟨fun i hi => absurd hi (by omega), hT⟩), fun post M G hT hp => Exists.intro 257 (ap_yInit nw gt gf g ne ba ad dr co post G (hY post G hp) 256 0 (by omega) M ⟨fun i hi => absurd hi (by omega), hT⟩)⟩
end
