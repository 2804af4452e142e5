section
/-! rows pasted from the rows to paste: stores, numbers, masks, bits -/
theorem pk_us {f : Nat → Int32} {k : Nat} {x : Int32} : upd f k x k = x := if_pos rfl
theorem pk_un {f : Nat → Int32} {k j : Nat} {x : Int32} (h : j ≠ k) : upd f k x j = f j := if_neg h
theorem pk_ix (x : Int32) {n : Nat} (hn : n < 2 ^ 31) : x < 0 ∨ nI n ≤ x ∨ ∃ j : Nat, j < n ∧ x = nI j := by
  by_cases h : x < 0
  · exact Or.inl h
  · obtain ⟨j, hj, rfl⟩ := nI_of h
    by_cases h2 : j < n
    · exact Or.inr (Or.inr ⟨j, h2, rfl⟩)
    · exact Or.inr (Or.inl (nI_le (by omega) hj))
theorem pk_le {x y : Int32} {A B : Prop} (a b : Nat) (f : a ≤ b → A) (g : b < a → B) (hx : x = nI a := by rfl) (hy : y = nI b := by rfl) (ha : a < 2 ^ 31 := by omega) (hb : b < 2 ^ 31 := by omega) : (x ≤ y → A) ∧ (¬ x ≤ y → B) := by
  subst hx hy
  rw [nI_leI ha hb]
  exact ⟨f, fun z => g (by omega)⟩
theorem pk_lt {x y : Int32} {A B : Prop} (a b : Nat) (f : a < b → A) (g : b ≤ a → B) (hx : x = nI a := by rfl) (hy : y = nI b := by rfl) (ha : a < 2 ^ 31 := by omega) (hb : b < 2 ^ 31 := by omega) : (x < y → A) ∧ (¬ x < y → B) := by
  subst hx hy
  rw [nI_ltI ha hb]
  exact ⟨f, fun z => g (by omega)⟩
theorem pk_eq {x y : Int32} {A B : Prop} (a b : Nat) (f : a = b → A) (g : a ≠ b → B) (hx : x = nI a := by rfl) (hy : y = nI b := by rfl) (ha : a < 2 ^ 31 := by omega) (hb : b < 2 ^ 31 := by omega) : (x = y → A) ∧ (¬ x = y → B) := by
  subst hx hy
  rw [nI_eq ha hb]
  exact ⟨f, g⟩
theorem pk_in {x : Int32} (n N : Nat) (h : n < N) (hx : x = nI n := by rfl) (hN : N < 2 ^ 31 := by omega) : vp_in x N := by
  subst hx
  exact vp_in_nI h hN
theorem pk_cl {x : Int32} (n : Nat) (hx : x = nI n := by rfl) (h : n < 2 ^ 31 := by omega) : x.toNatClampNeg = n := by
  subst hx
  exact nI_clamp h
theorem pk_tn {n : Nat} (h : n < 2 ^ 32) : (nI n).toBitVec.toNat = n := Nat.mod_eq_of_lt h
theorem pk_and (x : Int32) {m : Int32} (k : Nat) (hm : m.toBitVec.toNat = 2 ^ k - 1) : x &&& m = nI (x.toBitVec.toNat % 2 ^ k) := by
  apply Int32.toBitVec_inj.mp
  apply BitVec.eq_of_toNat_eq
  rw [Int32.toBitVec_and, BitVec.toNat_and, hm, Nat.and_two_pow_sub_one_eq_mod]
  show _ = (BitVec.ofNat 32 _).toNat
  rw [BitVec.toNat_ofNat]
  exact (Nat.mod_eq_of_lt (Nat.lt_of_le_of_lt (Nat.mod_le _ _) x.toBitVec.isLt)).symm
theorem pk_andN {n : Nat} (h : n < 2 ^ 32) {m : Int32} (k : Nat) (hm : m.toBitVec.toNat = 2 ^ k - 1) : nI n &&& m = nI (n % 2 ^ k) := by
  rw [pk_and _ k hm, pk_tn h]
theorem pk_andE (x : Int32) {m : Int32} (k : Nat) (hm : m.toBitVec.toNat = 2 ^ k - 1) : ∃ j : Nat, j < 2 ^ k ∧ x &&& m = nI j := ⟨_, Nat.mod_lt _ (Nat.two_pow_pos k), pk_and x k hm⟩
theorem pk_andIn (x : Int32) {m : Int32} (k : Nat) (hm : m.toBitVec.toNat = 2 ^ k - 1) (hk : k ≤ 30) : vp_in (x &&& m) (2 ^ k) := by
  obtain ⟨j, hj, e⟩ := pk_andE x k hm
  rw [e]
  exact vp_in_nI hj (Nat.lt_of_le_of_lt (Nat.pow_le_pow_right (by decide) hk) (by decide))
def bt (x : Int32) (i : Nat) : Bool := x.toBitVec.getLsbD i
theorem b_ext {x y : Int32} (h : ∀ i, i < 32 → bt x i = bt y i) : x = y := Int32.toBitVec_inj.mp (BitVec.eq_of_getLsbD_eq (fun i hi => h i hi))
theorem b_or (x y : Int32) (i : Nat) : bt (x ||| y) i = (bt x i || bt y i) := by unfold bt; rw [Int32.toBitVec_or, BitVec.getLsbD_or]
theorem b_and (x y : Int32) (i : Nat) : bt (x &&& y) i = (bt x i && bt y i) := by unfold bt; rw [Int32.toBitVec_and, BitVec.getLsbD_and]
theorem b_big {x : Int32} {i : Nat} (h : 32 ≤ i) : bt x i = false := BitVec.getLsbD_of_ge _ _ h
theorem b_255 (i : Nat) : bt 255 i = decide (i < 8) := by
  rcases Nat.lt_or_ge i 32 with h | h
  · exact (by decide +kernel : ∀ i, i < 32 → bt 255 i = decide (i < 8)) i h
  · rw [b_big h, decide_eq_false (by omega)]
theorem b_0 (i : Nat) : bt 0 i = false := BitVec.getLsbD_zero
end
section
/-! eight bits; counting; the least closed set -/
def ap_b8 (z : Int32) : Prop := ∃ j : Nat, j < 256 ∧ z = nI j
theorem ap_mask (x : Int32) : ap_b8 (x &&& 255) := pk_andE x 8 (by decide)
theorem ap_255 {z : Int32} (h : ap_b8 z) : z &&& 255 = z := by
  obtain ⟨j, hj, rfl⟩ := h
  rw [pk_andN (by omega) 8 (by decide)]
  exact congrArg nI (Nat.mod_eq_of_lt (by omega))
theorem ap_b8I {z : Int32} (h : z &&& 255 = z) : ap_b8 z := by
  rw [← h]
  exact ap_mask z
theorem ap_aft8 {s d x : Int32} (hs : ap_b8 s) (hx : ap_b8 x) : ap_b8 ((s &&& d) ||| x) := by
  apply ap_b8I
  apply b_ext
  intro i hi
  have e1 := congrArg (fun z => bt z i) (ap_255 hs)
  have e2 := congrArg (fun z => bt z i) (ap_255 hx)
  simp only [b_and, b_or] at e1 e2 ⊢
  revert e1 e2
  cases bt s i <;> cases bt d i <;> cases bt x i <;> cases bt 255 i <;> decide
theorem ap_in {z : Int32} (h : ap_b8 z) : vp_in z 256 := by
  obtain ⟨j, hj, rfl⟩ := h
  exact vp_in_nI hj (by omega)
theorem ap_inj {a b : Nat} (ha : a < 256) (hb : b < 256) (h : nI a = nI b) : a = b := (nI_eq (by omega) (by omega)).mp h
theorem ap_cl {j : Nat} (hj : j < 256) : (nI j).toNatClampNeg = j := nI_clamp (by omega)

/-! counting -/
def ap_cnt (F : Nat → Int32) : Nat → Nat
  | 0 => 0
  | n + 1 => ap_cnt F n + (if F n = 0 then 0 else 1)
theorem ap_cnt_s (F : Nat → Int32) (n : Nat) : ap_cnt F (n + 1) = ap_cnt F n + (if F n = 0 then 0 else 1) := rfl
theorem ap_cnt_le (F : Nat → Int32) : ∀ n, ap_cnt F n ≤ n := by
  intro n
  induction n with
  | zero => exact Nat.le_refl _
  | succ n ih =>
    rw [ap_cnt_s]
    split <;> omega
theorem ap_cnt_hi {F : Nat → Int32} {k : Nat} {x : Int32} : ∀ n, n ≤ k → ap_cnt (upd F k x) n = ap_cnt F n := by
  intro n
  induction n with
  | zero => intro _; rfl
  | succ n ih =>
    intro h
    rw [ap_cnt_s, ap_cnt_s, ih (by omega), pk_un (by omega)]
theorem ap_cnt_upd {F : Nat → Int32} {k : Nat} {x : Int32} (h0 : F k = 0) (hx : ¬ x = 0) : ∀ n, k < n → ap_cnt (upd F k x) n = ap_cnt F n + 1 := by
  intro n
  induction n with
  | zero => intro h; omega
  | succ n ih =>
    intro h
    rw [ap_cnt_s, ap_cnt_s]
    by_cases e : n = k
    · subst e
      rw [ap_cnt_hi n (Nat.le_refl _), pk_us, if_neg hx, if_pos h0]
    · rw [ih (by omega), pk_un e]
      omega
theorem ap_cnt_lt {F : Nat → Int32} {k n : Nat} (h0 : F k = 0) (hk : k < n) : ap_cnt F n < n := by
  have h1 := ap_cnt_upd (x := 1) h0 (by decide) n hk
  have h2 := ap_cnt_le (upd F k 1) n
  omega
theorem ap_cnt_eq {F G : Nat → Int32} : ∀ n, (∀ s, s < n → (F s = 0 ↔ G s = 0)) → ap_cnt F n = ap_cnt G n := by
  intro n
  induction n with
  | zero => intro _; rfl
  | succ n ih =>
    intro h
    rw [ap_cnt_s, ap_cnt_s, ih (fun s hs => h s (by omega))]
    by_cases e : F n = 0
    · rw [if_pos e, if_pos ((h n (by omega)).mp e)]
    · rw [if_neg e, if_neg (fun z => e ((h n (by omega)).mpr z))]
theorem ap_cnt_z {F : Nat → Int32} : ∀ n, (∀ s, s < n → F s = 0) → ap_cnt F n = 0 := by
  intro n
  induction n with
  | zero => intro _; rfl
  | succ n ih =>
    intro h
    rw [ap_cnt_s, ih (fun s hs => h s (by omega)), if_pos (h n (by omega))]
theorem ap_ne_upd {F : Nat → Int32} {k : Nat} {x : Int32} (hx : ¬ x = 0) {j : Nat} (h : ¬ F j = 0) : ¬ upd F k x j = 0 := by
  by_cases e : j = k
  · rw [e, pk_us]; exact hx
  · rw [pk_un e]; exact h

/-! the least closed set -/
def ap_rch (R : Nat → Nat → Prop) (s0 s : Nat) : Prop := ∀ P : Nat → Prop, P s0 → (∀ x y, x < 256 → y < 256 → P x → R x y → P y) → P s
theorem ap_rch0 (R : Nat → Nat → Prop) (s0 : Nat) : ap_rch R s0 s0 := fun _ h _ => h
theorem ap_rchS {R : Nat → Nat → Prop} {s0 s t : Nat} (h : ap_rch R s0 s) (hs : s < 256) (ht : t < 256) (r : R s t) : ap_rch R s0 t := fun P h0 hc => hc s t hs ht (h P h0 hc) r
/-- what both sides keep: the start is in, and all that is in can be reached -/
def ap_snd (R : Nat → Nat → Prop) (s0 : Nat) (F : Nat → Int32) : Prop := ¬ F s0 = 0 ∧ ∀ s, s < 256 → ¬ F s = 0 → ap_rch R s0 s
def ap_clo (R : Nat → Nat → Prop) (s0 : Nat) (F : Nat → Int32) : Prop := ap_snd R s0 F ∧ ∀ x y, x < 256 → y < 256 → ¬ F x = 0 → R x y → ¬ F y = 0
theorem ap_clo_sub {R : Nat → Nat → Prop} {s0 : Nat} {F G : Nat → Int32} (hF : ap_clo R s0 F) (hG : ap_clo R s0 G) {s : Nat} (hs : s < 256) (h : F s = 0) : G s = 0 :=
  Classical.byContradiction fun hg => hG.1.2 s hs hg (fun x => ¬ F x = 0) hF.1.1 hF.2 h
theorem ap_clo_cnt {R : Nat → Nat → Prop} {s0 : Nat} {F G : Nat → Int32} (hF : ap_clo R s0 F) (hG : ap_clo R s0 G) : ap_cnt F 256 = ap_cnt G 256 :=
  ap_cnt_eq 256 fun _ hs => ⟨ap_clo_sub hF hG hs, ap_clo_sub hG hF hs⟩
theorem ap_snd_add {R : Nat → Nat → Prop} {s0 s t : Nat} {F : Nat → Int32} {x : Int32} (h : ap_snd R s0 F) (hx : ¬ x = 0) (hs : s < 256) (ht : t < 256) (hF : ¬ F s = 0) (r : R s t) : ap_snd R s0 (upd F t x) := by
  refine ⟨ap_ne_upd hx h.1, fun y hy hn => ?_⟩
  by_cases e : y = t
  · rw [e]; exact ap_rchS (h.2 s hs hF) hs ht r
  · rw [pk_un e] at hn; exact h.2 y hy hn
theorem ap_snd_0 {R : Nat → Nat → Prop} {s0 : Nat} {F : Nat → Int32} (h0 : ¬ F s0 = 0) (h : ∀ s, s < 256 → ¬ s = s0 → F s = 0) : ap_snd R s0 F := by
  refine ⟨h0, fun s hs hn => ?_⟩
  by_cases e : s = s0
  · rw [e]; exact ap_rch0 R s0
  · exact absurd (h s hs e) hn

/-! the queue: c found, p of them gone through -/
def ap_q (R : Nat → Nat → Prop) (s0 p c : Nat) (F Q : Nat → Int32) : Prop :=
  c ≤ 256 ∧ c = ap_cnt F 256 ∧ p ≤ c ∧ ap_snd R s0 F ∧
  (∀ i, i < c → ∃ s, s < 256 ∧ Q i = nI s ∧ ¬ F s = 0) ∧
  (∀ s, s < 256 → ¬ F s = 0 → ∃ i, i < c ∧ Q i = nI s) ∧
  (∀ i, i < p → ∀ s, s < 256 → Q i = nI s → ∀ t, t < 256 → R s t → ¬ F t = 0)
theorem ap_q_add {R : Nat → Nat → Prop} {s0 p c s t : Nat} {F Q : Nat → Int32} {x : Int32} (h : ap_q R s0 p c F Q) (hx : ¬ x = 0) (hs : s < 256) (ht : t < 256) (hF : ¬ F s = 0) (r : R s t) (h0 : F t = 0) : ap_q R s0 p (c + 1) (upd F t x) (upd Q c (nI t)) := by
  obtain ⟨h1, h2, h3, h4, h5, h6, h7⟩ := h
  have hc : c < 256 := by have := ap_cnt_lt h0 ht; omega
  refine ⟨by omega, by rw [ap_cnt_upd h0 hx 256 ht, ← h2], by omega, ap_snd_add h4 hx hs ht hF r, ?_, ?_, ?_⟩
  · intro i hi
    by_cases e : i = c
    · exact ⟨t, ht, by rw [e, pk_us], by rw [pk_us]; exact hx⟩
    · obtain ⟨y, hy, e1, e2⟩ := h5 i (by omega)
      exact ⟨y, hy, by rw [pk_un e]; exact e1, ap_ne_upd hx e2⟩
  · intro y hy hn
    by_cases e : y = t
    · exact ⟨c, by omega, by rw [e, pk_us]⟩
    · rw [pk_un e] at hn
      obtain ⟨i, hi, e1⟩ := h6 y hy hn
      exact ⟨i, by omega, by rw [pk_un (by omega)]; exact e1⟩
  · intro i hi y hy e1 z hz r1
    rw [pk_un (by omega)] at e1
    exact ap_ne_upd hx (h7 i hi y hy e1 z hz r1)
theorem ap_q_next {R : Nat → Nat → Prop} {s0 p c s : Nat} {F Q : Nat → Int32} (h : ap_q R s0 p c F Q) (hp : p < c) (hs : s < 256) (hQ : Q p = nI s) (hn : ∀ t, t < 256 → R s t → ¬ F t = 0) : ap_q R s0 (p + 1) c F Q := by
  obtain ⟨h1, h2, h3, h4, h5, h6, h7⟩ := h
  refine ⟨h1, h2, by omega, h4, h5, h6, ?_⟩
  intro i hi y hy e1 z hz r1
  by_cases e : i = p
  · rw [e, hQ] at e1
    rw [← ap_inj hs hy e1] at r1
    exact hn z hz r1
  · exact h7 i (by omega) y hy e1 z hz r1
theorem ap_q_end {R : Nat → Nat → Prop} {s0 c : Nat} {F Q : Nat → Int32} (h : ap_q R s0 c c F Q) : ap_clo R s0 F := by
  obtain ⟨h1, h2, h3, h4, h5, h6, h7⟩ := h
  refine ⟨h4, fun x y hx hy hF r => ?_⟩
  obtain ⟨i, hi, e⟩ := h6 x hx hF
  exact h7 i hi x hx e y hy r
theorem ap_q_0 {R : Nat → Nat → Prop} {s0 : Nat} {F Q : Nat → Int32} (hs : s0 < 256) (hQ : Q 0 = nI s0) {x : Int32} (hx : ¬ x = 0) (h : ∀ s, s < 256 → F s = 0) : ap_q R s0 0 1 (upd F s0 x) Q := by
  refine ⟨by omega, ?_, by omega, ap_snd_0 (by rw [pk_us]; exact hx) (fun s hs e => by rw [pk_un e]; exact h s hs), ?_, ?_, ?_⟩
  · rw [ap_cnt_upd (h s0 hs) hx 256 hs, ap_cnt_z 256 h]
  · intro i hi
    have e : i = 0 := by omega
    exact ⟨s0, hs, by rw [e]; exact hQ, by rw [pk_us]; exact hx⟩
  · intro y hy hn
    by_cases e : y = s0
    · exact ⟨0, by omega, by rw [e]; exact hQ⟩
    · rw [pk_un e] at hn
      exact absurd (h y hy) hn
  · intro i hi
    omega
end
section
/-! the small methods: what can be done, what comes after -/
def ap_can (g ne ba : Nat → Int32) (a : Nat) (s : Int32) : Prop := ¬ g a = 0 ∧ ((s &&& ne a) = ne a ∧ (s &&& ba a) = 0)
def ap_aft (ad dr : Nat → Int32) (a : Nat) (s : Int32) : Int32 := (s &&& (dr a ^^^ (-1))) ||| ad a
/-- of the actions: the adds are sets of eight, the prices are from 0 to 50, of a given one from 1 -/
def ap_A (g ad co : Nat → Int32) : Prop := ∀ a, a < 10 → ap_b8 (ad a) ∧ ∃ c : Nat, c ≤ 50 ∧ co a = nI c ∧ (¬ g a = 0 → 1 ≤ c)
def ap_T (L : Nat → Int32) : Prop := ∀ i, 256 ≤ i → L i = 0
def ap_L (L : Nat → Int32) : Prop := (∀ s, s < 256 → ∃ l : Nat, l ≤ 1000000 ∧ L s = nI l) ∧ ap_T L
theorem ap_aftE {ad dr : Nat → Int32} {a j : Nat} (hj : j < 256) (h : ap_b8 (ad a)) : ∃ t, t < 256 ∧ ap_aft ad dr a (nI j) = nI t := by
  obtain ⟨t, ht, e⟩ := ap_aft8 (d := dr a ^^^ (-1)) ⟨j, hj, rfl⟩ h
  exact ⟨t, ht, e⟩
theorem ap_cla {a : Nat} (ha : a < 10) : (nI a).toNatClampNeg = a := nI_clamp (by omega)
theorem ap_ina {a : Nat} (ha : a < 10) : vp_in (nI a) 10 := vp_in_nI ha (by omega)
theorem ap_inj8 {j : Nat} (hj : j < 256) : vp_in (nI j) 256 := vp_in_nI hj (by omega)
theorem ap_T_upd {L : Nat → Int32} (h : ap_T L) {k : Nat} (hk : k < 256) (x : Int32) : ap_T (upd L k x) := fun i hi => by rw [pk_un (by omega)]; exact h i hi
theorem ap_nb {c : Int32} (h : c = 0 ∨ c = 1) : narrow .boolean (.int c) = .int c := by
  rcases h with rfl | rfl <;> rfl
theorem ap_v1 : vp_nar .boolean 1 = 1 := rfl
theorem ap_v0 : vp_nar .boolean 0 = 0 := rfl

section
variable {nw gt gf : Int32} {g ne ba ad dr co L Q F : Nat → Int32}
theorem ap_xCan {post : Int32 → Prop} {a : Nat} (ha : a < 10) {s : Int32} (h1 : ((s &&& ne a) = ne a ∧ (s &&& ba a) = 0) → post 1) (h0 : ¬ ((s &&& ne a) = ne a ∧ (s &&& ba a) = 0) → post 0) : wpX_canBeDone post (nw, gt, gf, g, ne, ba, ad, dr, co, L, Q, F) (nI a) s := by
  have hi := ap_ina ha
  unfold wpX_canBeDone
  dsimp only
  rw [ap_cla ha]
  exact ⟨hi, hi, br_c (fun e1 => ⟨hi, br_c (fun e2 => h1 ⟨e1, e2⟩) (fun e2 => h0 (fun z => e2 z.2))⟩) (fun e1 => h0 (fun z => e1 z.1))⟩
theorem ap_xAft {post : Int32 → Prop} {a : Nat} (ha : a < 10) {s t : Int32} (e : ap_aft ad dr a s = t) (h : post t) : wpX_stateAfter post (nw, gt, gf, g, ne, ba, ad, dr, co, L, Q, F) (nI a) s := by
  have hi := ap_ina ha
  unfold wpX_stateAfter
  dsimp only
  rw [ap_cla ha]
  subst e
  exact ⟨hi, hi, h⟩
theorem ap_xPT {post : Int32 → Prop} {a t : Nat} (ha : a < 10) {s v : Int32} (e : ap_aft ad dr a s = nI t) (ht : t < 256) (ev : co a + L t = v) (h1 : ap_can g ne ba a s → post v) (h0 : ¬ ap_can g ne ba a s → post 1000000) : wpX_priceThrough post (nw, gt, gf, g, ne, ba, ad, dr, co, L, Q, F) (nI a) s := by
  have hi := ap_ina ha
  have ht' := ap_inj8 ht
  unfold wpX_priceThrough
  dsimp only
  rw [ap_cla ha]
  refine ⟨hi, br_c (fun g0 => h0 (fun z => z.1 g0)) (fun g1 => ap_xCan ha (fun c => br_f (by decide) (ap_xAft ha e ⟨hi, ht', ?_⟩)) (fun c => br_t rfl (h0 (fun z => c z.2))))⟩
  rw [ap_cl ht, ev]
  exact h1 ⟨g1, c⟩
theorem ap_xGivenN {post : Int32 → Prop} {x : Int32} (h : post 0) (hx : x < 0 ∨ nI 10 ≤ x) : wpX_isGiven post (nw, gt, gf, g, ne, ba, ad, dr, co, L, Q, F) x := by
  unfold wpX_isGiven
  dsimp only
  by_cases h0 : x < 0
  · exact br_t h0 h
  · rcases hx with hx | hx
    · exact absurd hx h0
    · exact br_f h0 (br_t hx h)
theorem ap_lt10 {a : Nat} (ha : a < 10) : ¬ (10 : Int32) ≤ nI a := nI_ge (b := 10) ha (by decide)
theorem ap_xGiven {post : Int32 → Prop} {a : Nat} (ha : a < 10) (h0 : g a = 0 → post 0) (h1 : ¬ g a = 0 → post 1) : wpX_isGiven post (nw, gt, gf, g, ne, ba, ad, dr, co, L, Q, F) (nI a) := by
  unfold wpX_isGiven
  dsimp only
  rw [ap_cla ha]
  exact br_f (nI_pos (by omega)) (br_f (ap_lt10 ha) ⟨ap_ina ha, br_c h0 h1⟩)
end

section
variable {nw gt gf : Int32} {g ne ba ad dr co M G : Nat → Int32}
theorem ap_yCan {post : Int32 → Prop} {a : Nat} (ha : a < 10) {s : Int32} (h1 : ap_can g ne ba a s → post 1) (h0 : ¬ ap_can g ne ba a s → post 0) : wpY_canDo post (nw, gt, gf, g, ne, ba, ad, dr, co, M, G) (nI a) s := by
  have hi := ap_ina ha
  unfold wpY_canDo
  dsimp only
  rw [ap_cla ha]
  exact ⟨hi, br_c (fun g0 => h0 (fun z => z.1 g0)) (fun g1 => ⟨hi, hi, br_c (fun e1 => ⟨hi, br_c (fun e2 => h1 ⟨g1, e1, e2⟩) (fun e2 => h0 (fun z => e2 z.2.2))⟩) (fun e1 => h0 (fun z => e1 z.2.1))⟩)⟩
theorem ap_yAft {post : Int32 → Prop} {a j t : Nat} (ha : a < 10) (ht : t < 256) (e : ap_aft ad dr a (nI j) = nI t) (h : post (nI t)) : wpY_after post (nw, gt, gf, g, ne, ba, ad, dr, co, M, G) (nI a) (nI j) := by
  have hi := ap_ina ha
  unfold wpY_after
  dsimp only
  rw [ap_cla ha]
  refine ⟨hi, hi, ?_⟩
  unfold ap_aft at e
  rw [e, ap_255 ⟨t, ht, rfl⟩]
  exact h
theorem ap_yBad {post : Int32 → Prop} {x : Int32} (h : post 1) (hx : x < 0 ∨ nI 10 ≤ x) : wpY_bad post x := by
  unfold wpY_bad
  by_cases h0 : x < 0
  · exact br_t h0 h
  · rcases hx with hx | hx
    · exact absurd hx h0
    · refine br_f h0 (br_f (fun z => ?_) h)
      have h9 : (9 : Int32) < nI 10 := by decide
      exact Int32.lt_irrefl (Int32.lt_of_lt_of_le h9 (Int32.le_trans hx z))
theorem ap_yGood {post : Int32 → Prop} {a : Nat} (ha : a < 10) (h : post 0) : wpY_bad post (nI a) := by
  unfold wpY_bad
  exact br_f (nI_pos (by omega)) (br_t (nI_le (b := 9) (by omega) (by decide)) h)
end
end
section
/-! the least prices: both sides in lockstep, over one array -/
theorem ap_L_upd {L : Nat → Int32} (h : ap_L L) {k l : Nat} (hk : k < 256) (hl : l ≤ 1000000) : ap_L (upd L k (nI l)) := by
  refine ⟨fun s hs => ?_, ap_T_upd h.2 hk _⟩
  by_cases e : s = k
  · exact ⟨l, hl, by rw [e, pk_us]⟩
  · obtain ⟨m, hm, em⟩ := h.1 s hs
    exact ⟨m, hm, by rw [pk_un e]; exact em⟩
section
variable (nw gt gf : Int32) (g ne ba ad dr co : Nat → Int32)
theorem ap_inner (hA : ap_A g ad co) {j : Nat} (hj : j < 256) : ∀ d a : Nat, a + d = 10 → ∀ L : Nat → Int32, ap_L L → ∃ (L' : Nat → Int32) (m : Bool), ap_L L' ∧
    (∀ (post : Int32 → SX → Prop) (J : Int32 → Int32 → (Nat → Int32) → (Nat → Int32) → (Nat → Int32) → (Nat → Int32) → (Nat → Int32) → (Nat → Int32) → (Nat → Int32) → (Nat → Int32) → (Nat → Int32) → Prop) (c : Int32) (Q F : Nat → Int32), J (cond m 1 c) (nI (j + 1)) g ne ba ad dr co L' Q F → wX_lowerPrices_13 post J (nI j) nw gt gf (d + 1) c (nI a) g ne ba ad dr co L Q F) ∧
    (∀ (post : Int32 → SY → Prop) (c : Int32) (G : Nat → Int32), (c = 0 ∨ c = 1) → post (cond m 1 c) (nw, gt, gf, g, ne, ba, ad, dr, co, L', G) → wY_lower_4 post (nI j) nw gt gf (d + 1) c (nI a) g ne ba ad dr co L G) := by
  intro d
  induction d with
  | zero =>
    intro a ha L hL
    have h : (10 : Int32) ≤ nI a := nI_le (a := 10) (by omega) (by omega)
    exact ⟨L, false, hL, fun post J c Q F hp => br_t h (nm_r (nI_1 j) hp), fun post c G hc hp => br_t h ⟨ap_nb hc, hp⟩⟩
  | succ d ih =>
    intro a had L hL
    have ha : a < 10 := by omega
    have h := ap_lt10 ha
    have ea := ap_cla ha
    have ej := ap_cl hj
    have hia := ap_ina ha
    have hij := ap_inj8 hj
    obtain ⟨hAa, c0, hc0, ec, _⟩ := hA a ha
    obtain ⟨t, ht, et⟩ := ap_aftE (dr := dr) hj hAa
    have hit := ap_inj8 ht
    obtain ⟨l, hl, el⟩ := hL.1 j hj
    obtain ⟨l2, hl2, el2⟩ := hL.1 t ht
    have ev : co a + L t = nI (c0 + l2) := by rw [ec, el2, nI_add]
    have evY : co (nI a).toNatClampNeg + L (nI t).toNatClampNeg = nI (c0 + l2) := by rw [ea, ap_cl ht]; exact ev
    have elj : L (nI j).toNatClampNeg = nI l := by rw [ej]; exact el
    by_cases hc : ap_can g ne ba a (nI j)
    · by_cases hle : l ≤ c0 + l2
      · have hle' : L (nI j).toNatClampNeg ≤ nI (c0 + l2) := by rw [elj]; exact nI_le hle (by omega)
        obtain ⟨L', m, hL', hX, hY⟩ := ih (a + 1) (by omega) L hL
        refine ⟨L', m, hL', fun post J c Q F hp => br_f h (ap_xPT ha et ht ev (fun _ => ⟨hij, br_t hle' (nm_r (nI_1 a) (hX post J c Q F hp))⟩) (fun z => absurd hc z)), fun post c G hc' hp => br_f h (ap_yAft ha ht et ⟨hia, hit, nm_r evY (ap_yCan ha (fun _ => br_f (by decide) ⟨hij, br_t hle' (nm_r (nI_1 a) (hY post c G hc' hp))⟩) (fun z => absurd hc z))⟩)⟩
      · have hle' : ¬ L (nI j).toNatClampNeg ≤ nI (c0 + l2) := by rw [elj]; exact nI_ge (by omega) (by omega)
        have eU : upd L (nI j).toNatClampNeg (nI (c0 + l2)) = upd L j (nI (c0 + l2)) := by rw [ej]
        obtain ⟨L', m, hL', hX, hY⟩ := ih (a + 1) (by omega) (upd L j (nI (c0 + l2))) (ap_L_upd hL hj (by omega))
        have em : cond m (1 : Int32) 1 = 1 := by cases m <;> rfl
        refine ⟨L', true, hL', fun post J c Q F hp => br_f h (ap_xPT ha et ht ev (fun _ => ⟨hij, br_f hle' ⟨hij, nm_r eU (nm_r (nI_1 a) (hX post J 1 Q F (by rw [em]; exact hp)))⟩⟩) (fun z => absurd hc z)), fun post c G hc' hp => br_f h (ap_yAft ha ht et ⟨hia, hit, nm_r evY (ap_yCan ha (fun _ => br_f (by decide) ⟨hij, br_f hle' ⟨hij, nm_r eU (nm_r (nI_1 a) (hY post 1 G (Or.inr rfl) (by rw [em]; exact hp)))⟩⟩) (fun z => absurd hc z))⟩)⟩
    · have hle' : L (nI j).toNatClampNeg ≤ 1000000 := by rw [elj]; exact nI_le (b := 1000000) hl (by decide)
      obtain ⟨L', m, hL', hX, hY⟩ := ih (a + 1) (by omega) L hL
      refine ⟨L', m, hL', fun post J c Q F hp => br_f h (ap_xPT ha et ht ev (fun z => absurd z hc) (fun _ => ⟨hij, br_t hle' (nm_r (nI_1 a) (hX post J c Q F hp))⟩)), fun post c G hc' hp => br_f h (ap_yAft ha ht et ⟨hia, hit, nm_r evY (ap_yCan ha (fun z => absurd z hc) (fun _ => br_t rfl (nm_r (nI_1 a) (hY post c G hc' hp))))⟩)⟩
theorem ap_c01 {m : Bool} {c : Int32} (h : c = 0 ∨ c = 1) : cond m 1 c = 0 ∨ cond m 1 c = 1 := by
  cases m
  · exact h
  · exact Or.inr rfl
theorem ap_mid (hA : ap_A g ad co) : ∀ d s : Nat, s + d = 256 → ∀ L : Nat → Int32, ap_L L → ∀ c : Int32, (c = 0 ∨ c = 1) → ∃ (L' : Nat → Int32) (c' : Int32), ap_L L' ∧ (c' = 0 ∨ c' = 1) ∧
    (∀ (post : Int32 → SX → Prop) (Q F : Nat → Int32), post c' (nw, gt, gf, g, ne, ba, ad, dr, co, L', Q, F) → wX_lowerPrices_4 post nw gt gf (d + 1) c (nI s) g ne ba ad dr co L Q F) ∧
    (∀ (post : SY → Prop) (J : Int32 → Int32 → Int32 → Int32 → Int32 → (Nat → Int32) → (Nat → Int32) → (Nat → Int32) → (Nat → Int32) → (Nat → Int32) → (Nat → Int32) → (Nat → Int32) → (Nat → Int32) → Prop) (x2 : Int32) (G : Nat → Int32), J c' (x2 + 1) nw gt gf g ne ba ad dr co L' G → wY_work_54 post J x2 (d + 1) c (nI s) nw gt gf g ne ba ad dr co L G) := by
  intro d
  induction d with
  | zero =>
    intro s hs L hL c hc
    have h : (256 : Int32) ≤ nI s := nI_le (a := 256) (by omega) (by omega)
    exact ⟨L, c, hL, hc, fun post Q F hp => br_t h ⟨ap_nb hc, hp⟩, fun post J x2 G hp => br_t h (nm_e hp)⟩
  | succ d ih =>
    intro s hs L hL c hc
    have h : ¬ (256 : Int32) ≤ nI s := nI_ge (b := 256) (by omega) (by decide)
    obtain ⟨L1, m, hL1, hX1, hY1⟩ := ap_inner nw gt gf g ne ba ad dr co hA (j := s) (by omega) 10 0 (by omega) L hL
    obtain ⟨L', c', hL', hc', hX, hY⟩ := ih (s + 1) (by omega) L1 hL1 (cond m 1 c) (ap_c01 hc)
    refine ⟨L', c', hL', hc', fun post Q F hp => br_f h (Exists.intro 11 (hX1 post _ c Q F (hX post Q F hp))), fun post J x2 G hp => br_f h (Exists.intro 11 (hY1 _ 0 G (Or.inl rfl) ?_))⟩
    cases m
    · exact br_t rfl (nm_r (nI_1 s) (hY post J x2 G hp))
    · exact br_f (by decide) (nm_r (nI_1 s) (hY post J x2 G hp))
theorem ap_rounds (hA : ap_A g ad co) : ∀ d r : Nat, r + d = 256 → ∀ L : Nat → Int32, ap_L L → ∀ c : Int32, (c = 0 ∨ c = 1) → ∃ (L' : Nat → Int32), ap_L L' ∧
    (∀ (post : SX → Prop) (Q F : Nat → Int32), post (nw, gt, gf, g, ne, ba, ad, dr, co, L', Q, F) → wX_findLeastPrices_39 post (d + 1) c (nI r) nw gt gf g ne ba ad dr co L Q F) ∧
    (∀ (post : SY → Prop) (G : Nat → Int32), post (nw, gt, gf, g, ne, ba, ad, dr, co, L', G) → wY_work_39 post (d + 1) c (nI r) nw gt gf g ne ba ad dr co L G) := by
  intro d
  induction d with
  | zero =>
    intro r hr L hL c hc
    have h : (256 : Int32) ≤ nI r := nI_le (a := 256) (by omega) (by omega)
    exact ⟨L, hL, fun post Q F hp => br_t h hp, fun post G hp => br_t h hp⟩
  | succ d ih =>
    intro r hr L hL c hc
    have h : ¬ (256 : Int32) ≤ nI r := nI_ge (b := 256) (by omega) (by decide)
    rcases hc with rfl | rfl
    · exact ⟨L, hL, fun post Q F hp => br_f h (br_t rfl hp), fun post G hp => br_f h (br_t rfl hp)⟩
    · obtain ⟨L1, c1, hL1, hc1, hX1, hY1⟩ := ap_mid nw gt gf g ne ba ad dr co hA 256 0 (by omega) L hL 0 (Or.inl rfl)
      obtain ⟨L', hL', hX, hY⟩ := ih (r + 1) (by omega) L1 hL1 c1 hc1
      exact ⟨L', hL', fun post Q F hp => br_f h (br_f (by decide) (Exists.intro 257 (hX1 _ Q F (nm_r (nI_1 r) (hX post Q F hp))))), fun post G hp => br_f h (br_f (by decide) (Exists.intro 257 (hY1 post _ (nI r) G (by rw [nI_1 r]; exact hY post G hp))))⟩
/-- the array at the start of the rounds -/
def ap_I (gt gf : Int32) (s : Nat) : Int32 := if s < 256 then (if ((nI s &&& gt) = gt ∧ (nI s &&& gf) = 0) then 0 else 1000000) else 0
theorem ap_I_L : ap_L (ap_I gt gf) := by
  refine ⟨fun s hs => ?_, fun i hi => if_neg (by omega)⟩
  unfold ap_I
  rw [if_pos hs]
  split
  · exact ⟨0, by omega, rfl⟩
  · exact ⟨1000000, by omega, rfl⟩
theorem ap_I_1 {s : Nat} (hs : s < 256) (h : (nI s &&& gt) = gt ∧ (nI s &&& gf) = 0) : ap_I gt gf s = 0 := by
  unfold ap_I
  rw [if_pos hs, if_pos h]
theorem ap_I_0 {s : Nat} (hs : s < 256) (h : ¬ ((nI s &&& gt) = gt ∧ (nI s &&& gf) = 0)) : ap_I gt gf s = 1000000 := by
  unfold ap_I
  rw [if_pos hs, if_neg h]
/-- the array so far: s of the states set -/
def ap_P (gt gf : Int32) (s : Nat) (L : Nat → Int32) : Prop := (∀ i, i < s → L i = ap_I gt gf i) ∧ ap_T L
theorem ap_P_end {L : Nat → Int32} {s : Nat} (hs : s = 256) (h : ap_P gt gf s L) : L = ap_I gt gf := by
  funext i
  by_cases hi : i < 256
  · exact h.1 i (by omega)
  · rw [h.2 i (by omega)]
    exact (if_neg hi).symm
theorem ap_P_s {L : Nat → Int32} {s : Nat} {x : Int32} (hs : s < 256) (h : ap_P gt gf s L) (hx : ap_I gt gf s = x) : ap_P gt gf (s + 1) (upd L s x) := by
  refine ⟨fun i hi => ?_, ap_T_upd h.2 hs x⟩
  by_cases e : i = s
  · rw [e, pk_us, hx]
  · rw [pk_un e]; exact h.1 i (by omega)
theorem ap_xInit (post : SX → Prop) (Q F : Nat → Int32) {n : Nat} (hn : wX_findLeastPrices_39 post n 1 0 nw gt gf g ne ba ad dr co (ap_I gt gf) Q F) : ∀ d s : Nat, s + d = 256 → ∀ L : Nat → Int32, ap_P gt gf s L → wX_findLeastPrices_2 post nw gt gf (d + 1) (nI s) g ne ba ad dr co L Q F := by
  intro d
  induction d with
  | zero =>
    intro s hs L hL
    have h : (256 : Int32) ≤ nI s := nI_le (a := 256) (by omega) (by omega)
    rw [ap_P_end gt gf (by omega) hL]
    exact br_t h (Exists.intro n hn)
  | succ d ih =>
    intro s hs L hL
    have h : ¬ (256 : Int32) ≤ nI s := nI_ge (b := 256) (by omega) (by decide)
    have hs' : s < 256 := by omega
    have e0 : upd L (nI s).toNatClampNeg 1000000 = upd L s 1000000 := by rw [ap_cl hs']
    have e1 : upd L (nI s).toNatClampNeg 0 = upd L s 0 := by rw [ap_cl hs']
    refine br_f h (br_c (fun h1 => br_c (fun h2 => br_f (by decide) ⟨ap_inj8 hs', nm_r e1 (nm_r (nI_1 s) (ih (s + 1) (by omega) _ (ap_P_s gt gf hs' hL (ap_I_1 gt gf hs' ⟨h1, h2⟩))))⟩) (fun h2 => br_t rfl ⟨ap_inj8 hs', nm_r e0 (nm_r (nI_1 s) (ih (s + 1) (by omega) _ (ap_P_s gt gf hs' hL (ap_I_0 gt gf hs' (fun z => h2 z.2)))))⟩)) (fun h1 => br_t rfl ⟨ap_inj8 hs', nm_r e0 (nm_r (nI_1 s) (ih (s + 1) (by omega) _ (ap_P_s gt gf hs' hL (ap_I_0 gt gf hs' (fun z => h1 z.1)))))⟩))
theorem ap_yInit (post : SY → Prop) (G : Nat → Int32) {n : Nat} (hn : wY_work_39 post n 1 0 nw gt gf g ne ba ad dr co (ap_I gt gf) G) : ∀ d s : Nat, s + d = 256 → ∀ L : Nat → Int32, ap_P gt gf s L → wY_work_2 post nw gt gf (d + 1) (nI s) g ne ba ad dr co L G := by
  intro d
  induction d with
  | zero =>
    intro s hs L hL
    have h : (256 : Int32) ≤ nI s := nI_le (a := 256) (by omega) (by omega)
    rw [ap_P_end gt gf (by omega) hL]
    exact br_t h (Exists.intro n hn)
  | succ d ih =>
    intro s hs L hL
    have h : ¬ (256 : Int32) ≤ nI s := nI_ge (b := 256) (by omega) (by decide)
    have hs' : s < 256 := by omega
    have e0 : upd L (nI s).toNatClampNeg 1000000 = upd L s 1000000 := by rw [ap_cl hs']
    have e1 : upd L (nI s).toNatClampNeg 0 = upd L s 0 := by rw [ap_cl hs']
    refine br_f h (br_c (fun h1 => br_c (fun h2 => br_f (by decide) ⟨ap_inj8 hs', nm_r e1 (nm_r (nI_1 s) (ih (s + 1) (by omega) _ (ap_P_s gt gf hs' hL (ap_I_1 gt gf hs' ⟨h1, h2⟩))))⟩) (fun h2 => br_t rfl ⟨ap_inj8 hs', nm_r e0 (nm_r (nI_1 s) (ih (s + 1) (by omega) _ (ap_P_s gt gf hs' hL (ap_I_0 gt gf hs' (fun z => h2 z.2)))))⟩)) (fun h1 => br_t rfl ⟨ap_inj8 hs', nm_r e0 (nm_r (nI_1 s) (ih (s + 1) (by omega) _ (ap_P_s gt gf hs' hL (ap_I_0 gt gf hs' (fun z => h1 z.1)))))⟩))
/-- both sides find one array of least prices -/
theorem ap_work (hA : ap_A g ad co) : ∃ L' : Nat → Int32, ap_L L' ∧
    (∀ (post : SX → Prop) (L Q F : Nat → Int32), ap_T L → post (nw, gt, gf, g, ne, ba, ad, dr, co, L', Q, F) → wpX_findLeastPrices post (nw, gt, gf, g, ne, ba, ad, dr, co, L, Q, F)) ∧
    (∀ (post : SY → Prop) (M G : Nat → Int32), ap_T M → post (nw, gt, gf, g, ne, ba, ad, dr, co, L', G) → wpY_work post (nw, gt, gf, g, ne, ba, ad, dr, co, M, G)) := by
  obtain ⟨L', hL', hX, hY⟩ := ap_rounds nw gt gf g ne ba ad dr co hA 256 0 (by omega) (ap_I gt gf) (ap_I_L gt gf) 1 (Or.inr rfl)
  exact ⟨L', hL', fun post L Q F hT hp => Exists.intro 257 (ap_xInit nw gt gf g ne ba ad dr co post Q F (hX post Q F hp) 256 0 (by omega) L ⟨fun i hi => absurd hi (by omega), hT⟩), fun post M G hT hp => Exists.intro 257 (ap_yInit nw gt gf g ne ba ad dr co post G (hY post G hp) 256 0 (by omega) M ⟨fun i hi => absurd hi (by omega), hT⟩)⟩
end
end
section
/-! the chosen plan: first action, number of steps, place -/
section
variable (nw gt gf : Int32) (g ne ba ad dr co : Nat → Int32)
/-- from a state whose least price is 0 the component's scan finds nothing -/
theorem ap_xF0 (hA : ap_A g ad co) {L : Nat → Int32} (hL : ap_L L) {j : Nat} (hj : j < 256) (h0 : L j = 0) (Q F : Nat → Int32) (post : Int32 → Prop) (hp : post (-1)) : ∀ d a : Nat, a + d = 10 → wX_firstAction_15 post (nI j) nw gt gf g ne ba ad dr co L Q F (d + 1) (nI a) := by
  intro d
  induction d with
  | zero =>
    intro a ha
    have h : (10 : Int32) ≤ nI a := nI_le (a := 10) (by omega) (by omega)
    exact br_t h hp
  | succ d ih =>
    intro a had
    have ha : a < 10 := by omega
    have h := ap_lt10 ha
    have hij := ap_inj8 hj
    obtain ⟨hAa, c0, hc0, ec, hc1⟩ := hA a ha
    obtain ⟨t, ht, et⟩ := ap_aftE (dr := dr) hj hAa
    obtain ⟨l2, hl2, el2⟩ := hL.1 t ht
    have ev : co a + L t = nI (c0 + l2) := by rw [ec, el2, nI_add]
    have elj : L (nI j).toNatClampNeg = 0 := by rw [ap_cl hj]; exact h0
    refine br_f h (ap_xPT ha et ht ev (fun z => ⟨hij, br_f ?_ (nm_r (nI_1 a) (ih (a + 1) (by omega)))⟩) (fun z => ⟨hij, br_f ?_ (nm_r (nI_1 a) (ih (a + 1) (by omega)))⟩))
    · have := hc1 z.1
      rw [elj]
      exact nI_ne0 (by omega) (by omega)
    · rw [elj]
      decide
theorem ap_scan (hA : ap_A g ad co) {L : Nat → Int32} (hL : ap_L L) {j l : Nat} (hj : j < 256) (el : L j = nI l) (hl : l < 1000000) : ∀ d a : Nat, a + d = 10 → ∃ r : Int32, (r = -1 ∨ ∃ b : Nat, b < 10 ∧ r = nI b) ∧
    (∀ (post : Int32 → Prop) (Q F : Nat → Int32), post r → wX_firstAction_15 post (nI j) nw gt gf g ne ba ad dr co L Q F (d + 1) (nI a)) ∧
    (∀ (post : Int32 → Prop) (G : Nat → Int32), post r → wY_first_24 post (nI j) nw gt gf g ne ba ad dr co L G (d + 1) (nI a)) := by
  intro d
  induction d with
  | zero =>
    intro a ha
    have h : (10 : Int32) ≤ nI a := nI_le (a := 10) (by omega) (by omega)
    exact ⟨-1, Or.inl rfl, fun post Q F hp => br_t h hp, fun post G hp => br_t h hp⟩
  | succ d ih =>
    intro a had
    have ha : a < 10 := by omega
    have h := ap_lt10 ha
    have hij := ap_inj8 hj
    have hia := ap_ina ha
    obtain ⟨hAa, c0, hc0, ec, hc1⟩ := hA a ha
    obtain ⟨t, ht, et⟩ := ap_aftE (dr := dr) hj hAa
    have hit := ap_inj8 ht
    obtain ⟨l2, hl2, el2⟩ := hL.1 t ht
    have ev : co a + L t = nI (c0 + l2) := by rw [ec, el2, nI_add]
    have evY : co (nI a).toNatClampNeg + L (nI t).toNatClampNeg = nI (c0 + l2) := by rw [ap_cla ha, ap_cl ht]; exact ev
    have elj : L (nI j).toNatClampNeg = nI l := by rw [ap_cl hj]; exact el
    by_cases hc : ap_can g ne ba a (nI j)
    · by_cases hv : c0 + l2 = l
      · have e1 : nI (c0 + l2) = L (nI j).toNatClampNeg := by rw [elj, hv]
        exact ⟨nI a, Or.inr ⟨a, ha, rfl⟩, fun post Q F hp => br_f h (ap_xPT ha et ht ev (fun _ => ⟨hij, br_t e1 hp⟩) (fun z => absurd hc z)), fun post G hp => br_f h (ap_yAft ha ht et (ap_yCan ha (fun _ => br_f (by decide) ⟨hia, hit, hij, br_t (evY.trans e1) hp⟩) (fun z => absurd hc z)))⟩
      · have e1 : ¬ nI (c0 + l2) = L (nI j).toNatClampNeg := by rw [elj, nI_eq (by omega) (by omega)]; exact hv
        obtain ⟨r, hr, hX, hY⟩ := ih (a + 1) (by omega)
        exact ⟨r, hr, fun post Q F hp => br_f h (ap_xPT ha et ht ev (fun _ => ⟨hij, br_f e1 (nm_r (nI_1 a) (hX post Q F hp))⟩) (fun z => absurd hc z)), fun post G hp => br_f h (ap_yAft ha ht et (ap_yCan ha (fun _ => br_f (by decide) ⟨hia, hit, hij, br_f (fun z => e1 (evY.symm.trans z)) (nm_r (nI_1 a) (hY post G hp))⟩) (fun z => absurd hc z)))⟩
    · have e1 : ¬ (1000000 : Int32) = L (nI j).toNatClampNeg := by
        rw [elj]
        intro z
        have := (nI_eq (a := 1000000) (b := l) (by omega) (by omega)).mp z
        omega
      obtain ⟨r, hr, hX, hY⟩ := ih (a + 1) (by omega)
      exact ⟨r, hr, fun post Q F hp => br_f h (ap_xPT ha et ht ev (fun z => absurd z hc) (fun _ => ⟨hij, br_f e1 (nm_r (nI_1 a) (hX post Q F hp))⟩)), fun post G hp => br_f h (ap_yAft ha ht et (ap_yCan ha (fun z => absurd z hc) (fun _ => br_t rfl (nm_r (nI_1 a) (hY post G hp)))))⟩
theorem ap_first (hA : ap_A g ad co) {L : Nat → Int32} (hL : ap_L L) {j : Nat} (hj : j < 256) : ∃ r : Int32, (r = -1 ∨ ∃ b : Nat, b < 10 ∧ r = nI b) ∧
    (∀ (post : Int32 → Prop) (Q F : Nat → Int32), post r → wpX_firstAction post (nw, gt, gf, g, ne, ba, ad, dr, co, L, Q, F) (nI j)) ∧
    (∀ (post : Int32 → Prop) (G : Nat → Int32), post r → wpY_first post (nw, gt, gf, g, ne, ba, ad, dr, co, L, G) (nI j)) := by
  have hij := ap_inj8 hj
  obtain ⟨l, hl, el⟩ := hL.1 j hj
  have elj : L (nI j).toNatClampNeg = nI l := by rw [ap_cl hj]; exact el
  by_cases h6 : l = 1000000
  · have e1 : L (nI j).toNatClampNeg = 1000000 := by rw [elj, h6]; rfl
    have e0 : ¬ L (nI j).toNatClampNeg = 0 := by rw [e1]; decide
    have e2 : ¬ L (nI j).toNatClampNeg < 1000000 := by rw [e1]; decide
    exact ⟨-1, Or.inl rfl, fun post Q F hp => And.intro hij (br_t e1 hp), fun post G hp => And.intro hij (br_f e0 ⟨hij, br_f e2 hp⟩)⟩
  · have e1 : ¬ L (nI j).toNatClampNeg = 1000000 := by
      rw [elj]
      intro z
      exact h6 ((nI_eq (a := l) (b := 1000000) (by omega) (by omega)).mp z)
    by_cases h0 : l = 0
    · have e0 : L (nI j).toNatClampNeg = 0 := by rw [elj, h0]; rfl
      exact ⟨-1, Or.inl rfl, fun post Q F hp => And.intro hij (br_f e1 (Exists.intro 11 (ap_xF0 nw gt gf g ne ba ad dr co hA hL hj (by rw [el, h0]; rfl) Q F post hp 10 0 (by omega)))), fun post G hp => And.intro hij (br_t e0 hp)⟩
    · have e0 : ¬ L (nI j).toNatClampNeg = 0 := by rw [elj]; exact nI_ne0 (by omega) (by omega)
      have e2 : L (nI j).toNatClampNeg < 1000000 := by rw [elj]; exact nI_lt (b := 1000000) (by omega) (by decide)
      obtain ⟨r, hr, hX, hY⟩ := ap_scan nw gt gf g ne ba ad dr co hA hL hj el (by omega) 10 0 (by omega)
      exact ⟨r, hr, fun post Q F hp => And.intro hij (br_f e1 (Exists.intro 11 (hX post Q F hp))), fun post G hp => And.intro hij (br_f e0 ⟨hij, br_t e2 (Exists.intro 11 (hY post G hp))⟩)⟩
theorem ap_neg1 : ¬ (0 : Int32) ≤ -1 := by decide
theorem ap_neg1' : (-1 : Int32) < 0 := by decide
theorem ap_steps (hA : ap_A g ad co) {L : Nat → Int32} (hL : ap_L L) : ∀ d i : Nat, i + d = 256 → ∀ j, j < 256 → ∃ r : Int32,
    (∀ (post : Int32 → SX → Prop) (Q F : Nat → Int32), post r (nw, gt, gf, g, ne, ba, ad, dr, co, L, Q, F) → wX_steps_27 post nw gt gf g ne ba ad dr co L Q F (d + 1) (nI j) (nI i)) ∧
    (∀ (post : Int32 → SY → Prop) (G : Nat → Int32), post r (nw, gt, gf, g, ne, ba, ad, dr, co, L, G) → wY_steps_27 post nw gt gf g ne ba ad dr co L G (d + 1) (nI j) (nI i)) := by
  intro d
  induction d with
  | zero =>
    intro i hi j hj
    have e : i = 256 := by omega
    subst e
    have h : (256 : Int32) ≤ nI 256 := nI_le (a := 256) (by omega) (by omega)
    exact ⟨nI 256, fun post Q F hp => br_t h hp, fun post G hp => br_t h hp⟩
  | succ d ih =>
    intro i hi j hj
    have h : ¬ (256 : Int32) ≤ nI i := nI_ge (b := 256) (by omega) (by decide)
    obtain ⟨r, hr, hfX, hfY⟩ := ap_first nw gt gf g ne ba ad dr co hA hL hj
    rcases hr with rfl | ⟨a, ha, rfl⟩
    · exact ⟨nI i, fun post Q F hp => br_f h (hfX _ Q F (br_f ap_neg1 hp)), fun post G hp => br_f h (hfY _ G (br_f ap_neg1 hp))⟩
    · obtain ⟨t, ht, et⟩ := ap_aftE (dr := dr) hj (hA a ha).1
      obtain ⟨r, hX, hY⟩ := ih (i + 1) (by omega) t ht
      have h0 : (0 : Int32) ≤ nI a := nI_pos' (by omega)
      exact ⟨r, fun post Q F hp => br_f h (hfX _ Q F (br_t h0 (ap_xAft ha et (nm_r (nI_1 i) (hX post Q F hp))))), fun post G hp => br_f h (hfY _ G (br_t h0 (ap_yAft ha ht et (nm_r (nI_1 i) (hY post G hp)))))⟩
theorem ap_plan (hA : ap_A g ad co) {L : Nat → Int32} (hL : ap_L L) {p : Nat} (hp6 : p < 256) : ∀ d i : Nat, i + d = p → ∀ j, j < 256 → ∃ r : Int32,
    (∀ (post : Int32 → SX → Prop) (Q F : Nat → Int32), post r (nw, gt, gf, g, ne, ba, ad, dr, co, L, Q, F) → wX_planned_24 post (nI p) nw gt gf g ne ba ad dr co L Q F (d + 1) (nI j) (nI i)) ∧
    (∀ (post : Int32 → SY → Prop) (G : Nat → Int32), post r (nw, gt, gf, g, ne, ba, ad, dr, co, L, G) → wY_planned_11 post (nI p) nw gt gf g ne ba ad dr co L G (d + 1) (nI j) (nI i)) := by
  intro d
  induction d with
  | zero =>
    intro i hi j hj
    have e : i = p := by omega
    subst e
    have h : ¬ (256 : Int32) ≤ nI i := nI_ge (b := 256) (by omega) (by decide)
    have hle : nI i ≤ nI i := nI_le (by omega) (by omega)
    obtain ⟨r, hr, hfX, hfY⟩ := ap_first nw gt gf g ne ba ad dr co hA hL hj
    refine ⟨r, fun post Q F hp => br_t hle (hfX _ Q F hp), fun post G hp => br_f h (hfY _ G ?_)⟩
    by_cases hn : r < 0
    · exact br_t hn hp
    · exact br_f hn (br_t rfl hp)
  | succ d ih =>
    intro i hi j hj
    have h : ¬ (256 : Int32) ≤ nI i := nI_ge (b := 256) (by omega) (by decide)
    have hle : ¬ nI p ≤ nI i := nI_ge (by omega) (by omega)
    have hne : ¬ nI i = nI p := by rw [nI_eq (by omega) (by omega)]; omega
    obtain ⟨r, hr, hfX, hfY⟩ := ap_first nw gt gf g ne ba ad dr co hA hL hj
    rcases hr with rfl | ⟨a, ha, rfl⟩
    · exact ⟨-1, fun post Q F hp => br_f hle (hfX _ Q F (br_f ap_neg1 hp)), fun post G hp => br_f h (hfY _ G (br_t ap_neg1' hp))⟩
    · obtain ⟨t, ht, et⟩ := ap_aftE (dr := dr) hj (hA a ha).1
      obtain ⟨r, hX, hY⟩ := ih (i + 1) (by omega) t ht
      have h0 : (0 : Int32) ≤ nI a := nI_pos' (by omega)
      have h0' : ¬ nI a < 0 := nI_pos (by omega)
      exact ⟨r, fun post Q F hp => br_f hle (hfX _ Q F (br_t h0 (ap_xAft ha et (nm_r (nI_1 i) (hX post Q F hp))))), fun post G hp => br_f h (hfY _ G (br_f h0' (br_f hne (ap_yAft ha ht et (nm_r (nI_1 i) (hY post G hp))))))⟩
/-- a place that no plan has: the reference goes on to the end, and answers -1 -/
theorem ap_planN (hA : ap_A g ad co) {L : Nat → Int32} (hL : ap_L L) {x : Int32} (hx : ∀ i, i < 256 → ¬ nI i = x) : ∀ d i : Nat, i + d = 256 → ∀ j, j < 256 →
    (∀ (post : Int32 → SY → Prop) (G : Nat → Int32), post (-1) (nw, gt, gf, g, ne, ba, ad, dr, co, L, G) → wY_planned_11 post x nw gt gf g ne ba ad dr co L G (d + 1) (nI j) (nI i)) := by
  intro d
  induction d with
  | zero =>
    intro i hi j hj post G hp
    have h : (256 : Int32) ≤ nI i := nI_le (a := 256) (by omega) (by omega)
    exact br_t h hp
  | succ d ih =>
    intro i hi j hj post G hp
    have h : ¬ (256 : Int32) ≤ nI i := nI_ge (b := 256) (by omega) (by decide)
    obtain ⟨r, hr, hfX, hfY⟩ := ap_first nw gt gf g ne ba ad dr co hA hL hj
    rcases hr with rfl | ⟨a, ha, rfl⟩
    · exact br_f h (hfY _ G (br_t ap_neg1' hp))
    · obtain ⟨t, ht, et⟩ := ap_aftE (dr := dr) hj (hA a ha).1
      have h0' : ¬ nI a < 0 := nI_pos (by omega)
      exact br_f h (hfY _ G (br_f h0' (br_f (hx i (by omega)) (ap_yAft ha ht et (nm_r (nI_1 i) (ih (i + 1) (by omega) t ht post G hp))))))
end
end
section
/-! what can be reached: the queue of the component, the rounds of the reference, each against the least closed set -/
def ap_R (g ne ba ad dr : Nat → Int32) (s t : Nat) : Prop := ∃ a : Nat, a < 10 ∧ ap_can g ne ba a (nI s) ∧ ap_aft ad dr a (nI s) = nI t
/-- the actions below a lead from s into the set only -/
def ap_cov (g ne ba ad dr : Nat → Int32) (s a : Nat) (F : Nat → Int32) : Prop := ∀ b t, b < a → t < 256 → ap_can g ne ba b (nI s) → ap_aft ad dr b (nI s) = nI t → ¬ F t = 0
section
variable (nw gt gf : Int32) (g ne ba ad dr co : Nat → Int32)
theorem ap_cov_end {s : Nat} {F : Nat → Int32} (h : ap_cov g ne ba ad dr s 10 F) : ∀ t, t < 256 → ap_R g ne ba ad dr s t → ¬ F t = 0 := by
  intro t ht hr
  obtain ⟨a, ha, hc, e⟩ := hr
  exact h a t ha ht hc e
theorem ap_cov_no {s a : Nat} {F : Nat → Int32} (h : ap_cov g ne ba ad dr s a F) (hn : ¬ ap_can g ne ba a (nI s)) : ap_cov g ne ba ad dr s (a + 1) F := by
  intro b t hb ht hc e
  by_cases z : b = a
  · rw [z] at hc; exact absurd hc hn
  · exact h b t (by omega) ht hc e
theorem ap_cov_in {s a t : Nat} {F : Nat → Int32} (h : ap_cov g ne ba ad dr s a F) (ht : t < 256) (e : ap_aft ad dr a (nI s) = nI t) (hF : ¬ F t = 0) : ap_cov g ne ba ad dr s (a + 1) F := by
  intro b t' hb ht' hc e'
  by_cases z : b = a
  · rw [z, e] at e'
    rw [← ap_inj ht ht' e']
    exact hF
  · exact h b t' (by omega) ht' hc e'
theorem ap_cov_add {s a k : Nat} {F : Nat → Int32} {x : Int32} (hx : ¬ x = 0) (h : ap_cov g ne ba ad dr s a F) : ap_cov g ne ba ad dr s a (upd F k x) := fun b t hb ht hc e => ap_ne_upd hx (h b t hb ht hc e)

/-! the component's queue -/
theorem ap_xFSA (hA : ap_A g ad co) (L : Nat → Int32) {s0 p s : Nat} (hs : s < 256) (post : Int32 → SX → Prop)
    (hpost : ∀ (c : Nat) (F Q : Nat → Int32), ap_q (ap_R g ne ba ad dr) s0 p c F Q → p < c → Q p = nI s → (∀ t, t < 256 → ap_R g ne ba ad dr s t → ¬ F t = 0) → post (nI c) (nw, gt, gf, g, ne, ba, ad, dr, co, L, Q, F)) :
    ∀ d a : Nat, a + d = 10 → ∀ (c : Nat) (F Q : Nat → Int32), ap_q (ap_R g ne ba ad dr) s0 p c F Q → p < c → Q p = nI s → ¬ F s = 0 → ap_cov g ne ba ad dr s a F →
      wX_findStatesAfter_5 post (nI s) nw gt gf (d + 1) (nI c) (nI a) g ne ba ad dr co L Q F := by
  intro d
  induction d with
  | zero =>
    intro a ha c F Q hq hp hQ hF hcov
    have e : a = 10 := by omega
    subst e
    have h : (10 : Int32) ≤ nI 10 := nI_le (a := 10) (by omega) (by omega)
    exact br_t h (hpost c F Q hq hp hQ (ap_cov_end g ne ba ad dr hcov))
  | succ d ih =>
    intro a had c F Q hq hp hQ hF hcov
    have ha : a < 10 := by omega
    have h := ap_lt10 ha
    have ea := ap_cla ha
    have hia := ap_ina ha
    have hno : ¬ ap_can g ne ba a (nI s) → wX_findStatesAfter_5 post (nI s) nw gt gf (d + 1) (nI c) (nI (a + 1)) g ne ba ad dr co L Q F := fun hn => ih (a + 1) (by omega) c F Q hq hp hQ hF (ap_cov_no g ne ba ad dr hcov hn)
    obtain ⟨t, ht, et⟩ := ap_aftE (dr := dr) hs (hA a ha).1
    have hit := ap_inj8 ht
    refine br_f h ⟨hia, br_c (fun e => nm_r (nI_1 a) (hno ?_)) (fun e => ap_xCan ha (fun hc => br_f (by decide) (ap_xAft ha et ⟨hit, br_c (fun f0 => ?_) (fun f1 => nm_r (nI_1 a) ?_)⟩)) (fun hc => br_t rfl (nm_r (nI_1 a) (hno (fun z => hc z.2)))))⟩
    · rw [ea] at e
      exact fun z => z.1 e
    · rw [ap_cl ht] at f0
      rw [ea] at e
      have hc6 : c < 256 := by have := ap_cnt_lt f0 ht; have := hq.2.1; omega
      have hcc : ¬ (256 : Int32) ≤ nI c := nI_ge (b := 256) hc6 (by decide)
      have eF : upd F (nI t).toNatClampNeg (vp_nar .boolean 1) = upd F t 1 := by rw [ap_cl ht, ap_v1]
      have eQ : upd Q (nI c).toNatClampNeg (nI t) = upd Q c (nI t) := by rw [ap_cl hc6]
      have h1 : ¬ (1 : Int32) = 0 := by decide
      refine br_f hcc ⟨hit, nm_r eF ⟨ap_inj8 hc6, nm_r eQ (nm_r (nI_1 c) (nm_r (nI_1 a) (ih (a + 1) (by omega) (c + 1) (upd F t 1) (upd Q c (nI t)) ?_ (by omega) ?_ (ap_ne_upd h1 hF) ?_)))⟩⟩
      · exact ap_q_add hq h1 hs ht hF ⟨a, ha, ⟨e, hc⟩, et⟩ f0
      · rw [pk_un (by omega)]; exact hQ
      · exact ap_cov_in g ne ba ad dr (ap_cov_add g ne ba ad dr h1 hcov) ht et (by rw [pk_us]; exact h1)
    · rw [ap_cl ht] at f1
      exact ih (a + 1) (by omega) c F Q hq hp hQ hF (ap_cov_in g ne ba ad dr hcov ht et f1)
theorem ap_xOut (hA : ap_A g ad co) (L : Nat → Int32) {s0 : Nat} (post : Int32 → SX → Prop)
    (hpost : ∀ (c : Nat) (F Q : Nat → Int32), ap_clo (ap_R g ne ba ad dr) s0 F → c = ap_cnt F 256 → post (nI c) (nw, gt, gf, g, ne, ba, ad, dr, co, L, Q, F)) :
    ∀ d p : Nat, p + d = 256 → ∀ (c : Nat) (F Q : Nat → Int32), ap_q (ap_R g ne ba ad dr) s0 p c F Q → wX_reachable_46 post (d + 1) (nI c) (nI p) nw gt gf g ne ba ad dr co L Q F := by
  intro d
  induction d with
  | zero =>
    intro p hp c F Q hq
    have h : (256 : Int32) ≤ nI p := nI_le (a := 256) (by omega) (by omega)
    have e : p = c := by have := hq.1; have := hq.2.2.1; omega
    subst e
    exact br_t h (hpost p F Q (ap_q_end hq) hq.2.1)
  | succ d ih =>
    intro p hp c F Q hq
    have hp6 : p < 256 := by omega
    have hc6 := hq.1
    have h : ¬ (256 : Int32) ≤ nI p := nI_ge (b := 256) hp6 (by decide)
    by_cases e : p = c
    · subst e
      exact br_f h (br_t (nI_le (by omega) (by omega)) (hpost p F Q (ap_q_end hq) hq.2.1))
    · have hpc : p < c := by have := hq.2.2.1; omega
      have hn : ¬ nI c ≤ nI p := nI_ge hpc (by omega)
      obtain ⟨s, hs, eQ, hF⟩ := hq.2.2.2.2.1 p hpc
      refine br_f h (br_f hn ⟨ap_inj8 hp6, ?_⟩)
      rw [ap_cl hp6, eQ]
      exact Exists.intro 11 (ap_xFSA nw gt gf g ne ba ad dr co hA L hs _ (fun c' F' Q' hq' hp' hQ' hcl => nm_r (nI_1 p) (ih (p + 1) (by omega) c' F' Q' (ap_q_next hq' hp' hs hQ' hcl))) 10 0 (by omega) c F Q hq hpc eQ hF (fun b t hb => absurd hb (by omega)))
theorem ap_xClr (L Q : Nat → Int32) (post : Int32 → SX → Prop) {j : Nat} (hj : j < 256) (en : nw = nI j)
    (hpost : ∀ F : Nat → Int32, (∀ i, i < 256 → F i = 0) → ∃ n : Nat, wX_reachable_46 post n 1 0 nw gt gf g ne ba ad dr co L (upd Q 0 nw) (upd F j 1)) :
    ∀ d s : Nat, s + d = 256 → ∀ F : Nat → Int32, (∀ i, i < s → F i = 0) → wX_reachable_2 post nw gt gf (d + 1) (nI s) g ne ba ad dr co L Q F := by
  intro d
  induction d with
  | zero =>
    intro s hs F hF
    have h : (256 : Int32) ≤ nI s := nI_le (a := 256) (by omega) (by omega)
    have hin : vp_in nw 256 := by rw [en]; exact ap_inj8 hj
    have eF : upd F nw.toNatClampNeg (vp_nar .boolean 1) = upd F j 1 := by rw [en, ap_cl hj, ap_v1]
    exact br_t h ⟨hin, nm_r eF (nm_e (hpost F (fun i hi => hF i (by omega))))⟩
  | succ d ih =>
    intro s hs F hF
    have hs6 : s < 256 := by omega
    have h : ¬ (256 : Int32) ≤ nI s := nI_ge (b := 256) hs6 (by decide)
    have eF : upd F (nI s).toNatClampNeg (vp_nar .boolean 0) = upd F s 0 := by rw [ap_cl hs6, ap_v0]
    refine br_f h ⟨ap_inj8 hs6, nm_r eF (nm_r (nI_1 s) (ih (s + 1) (by omega) _ (fun i hi => ?_)))⟩
    by_cases e : i = s
    · rw [e, pk_us]
    · rw [pk_un e]; exact hF i (by omega)
theorem ap_xReach (hA : ap_A g ad co) (L Q F : Nat → Int32) (post : Int32 → SX → Prop) {j : Nat} (hj : j < 256)
    (hpost : ∀ (c : Nat) (F Q : Nat → Int32), ap_clo (ap_R g ne ba ad dr) j F → c = ap_cnt F 256 → post (nI c) (nI j, gt, gf, g, ne, ba, ad, dr, co, L, Q, F)) : wpX_reachable post (nI j, gt, gf, g, ne, ba, ad, dr, co, L, Q, F) :=
  Exists.intro 257 (ap_xClr (nI j) gt gf g ne ba ad dr co L Q post hj rfl (fun F' hF' => Exists.intro 257 (ap_xOut (nI j) gt gf g ne ba ad dr co hA L post hpost 256 0 (by omega) 1 (upd F' j 1) (upd Q 0 (nI j)) (ap_q_0 hj pk_us (by decide) hF'))) 256 0 (by omega) F (fun i hi => absurd hi (by omega)))
end
end
section
/-! what can be reached: the reference's rounds -/
section
variable (nw gt gf : Int32) (g ne ba ad dr co : Nat → Int32)
/-- how a set stands to the one it came from: the same and gone through, or greater -/
def ap_gr (C : Prop) (G0 G : Nat → Int32) (m : Int32) : Prop := (m = 0 ∧ G = G0 ∧ C) ∨ (m = 1 ∧ ap_cnt G0 256 < ap_cnt G 256)
theorem ap_gr01 {C : Prop} {G0 G : Nat → Int32} {m : Int32} (h : ap_gr C G0 G m) : m = 0 ∨ m = 1 := by
  rcases h with h | h
  · exact Or.inl h.1
  · exact Or.inr h.1
theorem ap_gr_imp {C D : Prop} {G0 G : Nat → Int32} {m : Int32} (h : ap_gr C G0 G m) (hi : C → D) : ap_gr D G0 G m := by
  rcases h with h | h
  · exact Or.inl ⟨h.1, h.2.1, hi h.2.2⟩
  · exact Or.inr h
theorem ap_ySpr (hA : ap_A g ad co) (M : Nat → Int32) {s0 s : Nat} (hs : s < 256) (G0 : Nat → Int32) (post : Int32 → SY → Prop)
    (hpost : ∀ (m : Int32) (G : Nat → Int32), ap_snd (ap_R g ne ba ad dr) s0 G → ap_gr (ap_cov g ne ba ad dr s 10 G0) G0 G m → post m (nw, gt, gf, g, ne, ba, ad, dr, co, M, G)) :
    ∀ d a : Nat, a + d = 10 → ∀ (m : Int32) (G : Nat → Int32), ap_snd (ap_R g ne ba ad dr) s0 G → ¬ G s = 0 → ap_gr (ap_cov g ne ba ad dr s a G0) G0 G m →
      wY_spread_4 post (nI s) nw gt gf (d + 1) m (nI a) g ne ba ad dr co M G := by
  intro d
  induction d with
  | zero =>
    intro a ha m G hG hGs hI
    have e : a = 10 := by omega
    subst e
    have h : (10 : Int32) ≤ nI 10 := nI_le (a := 10) (by omega) (by omega)
    exact br_t h ⟨ap_nb (ap_gr01 hI), hpost m G hG hI⟩
  | succ d ih =>
    intro a had m G hG hGs hI
    have ha : a < 10 := by omega
    have h := ap_lt10 ha
    obtain ⟨t, ht, et⟩ := ap_aftE (dr := dr) hs (hA a ha).1
    have hit := ap_inj8 ht
    refine br_f h (ap_yAft ha ht et (ap_yCan ha (fun hc => br_f (by decide) ⟨hit, br_c (fun f0 => ?_) (fun f1 => nm_r (nI_1 a) ?_)⟩) (fun hc => br_t rfl (nm_r (nI_1 a) (ih (a + 1) (by omega) m G hG hGs (ap_gr_imp hI (fun z => ap_cov_no g ne ba ad dr z hc)))))))
    · rw [ap_cl ht] at f0
      have h1 : ¬ (1 : Int32) = 0 := by decide
      have eF : upd G (nI t).toNatClampNeg (vp_nar .boolean 1) = upd G t 1 := by rw [ap_cl ht, ap_v1]
      refine ⟨hit, nm_r eF (nm_r (nI_1 a) (ih (a + 1) (by omega) 1 (upd G t 1) (ap_snd_add hG h1 hs ht hGs ⟨a, ha, hc, et⟩) (ap_ne_upd h1 hGs) (Or.inr ⟨rfl, ?_⟩)))⟩
      rw [ap_cnt_upd f0 h1 256 ht]
      rcases hI with hI | hI
      · rw [hI.2.1]; omega
      · have := hI.2; omega
    · rw [ap_cl ht] at f1
      refine ih (a + 1) (by omega) m G hG hGs ?_
      rcases hI with hI | hI
      · refine Or.inl ⟨hI.1, hI.2.1, ap_cov_in g ne ba ad dr hI.2.2 ht et ?_⟩
        rw [← hI.2.1]
        exact f1
      · exact Or.inr hI
/-- the states below s are gone through -/
def ap_thr (g ne ba ad dr : Nat → Int32) (s : Nat) (G : Nat → Int32) : Prop := ∀ x y, x < s → x < 256 → y < 256 → ¬ G x = 0 → ap_R g ne ba ad dr x y → ¬ G y = 0
theorem ap_thr_s {s : Nat} {G : Nat → Int32} (h : ap_thr g ne ba ad dr s G) (hs : ¬ G s = 0 → ∀ y, y < 256 → ap_R g ne ba ad dr s y → ¬ G y = 0) : ap_thr g ne ba ad dr (s + 1) G := by
  intro x y hx hx6 hy hG hr
  by_cases e : x = s
  · rw [e] at hG hr
    exact hs hG y hy hr
  · exact h x y (by omega) hx6 hy hG hr
theorem ap_yRnd (hA : ap_A g ad co) (M : Nat → Int32) {s0 : Nat} (G0 : Nat → Int32) (post : Int32 → SY → Prop) (J : Int32 → Int32 → Int32 → Int32 → Int32 → (Nat → Int32) → (Nat → Int32) → (Nat → Int32) → (Nat → Int32) → (Nat → Int32) → (Nat → Int32) → (Nat → Int32) → (Nat → Int32) → Prop) (x2 : Int32)
    (hJ : ∀ (m : Int32) (G : Nat → Int32), ap_snd (ap_R g ne ba ad dr) s0 G → ap_gr (ap_thr g ne ba ad dr 256 G0) G0 G m → J m (x2 + 1) nw gt gf g ne ba ad dr co M G) :
    ∀ d s : Nat, s + d = 256 → ∀ (m : Int32) (G : Nat → Int32), ap_snd (ap_R g ne ba ad dr) s0 G → ap_gr (ap_thr g ne ba ad dr s G0) G0 G m →
      wY_reachable_53 post J x2 (d + 1) m (nI s) nw gt gf g ne ba ad dr co M G := by
  intro d
  induction d with
  | zero =>
    intro s hs m G hG hI
    have e : s = 256 := by omega
    subst e
    have h : (256 : Int32) ≤ nI 256 := nI_le (a := 256) (by omega) (by omega)
    exact br_t h (nm_e (hJ m G hG hI))
  | succ d ih =>
    intro s hs m G hG hI
    have hs6 : s < 256 := by omega
    have h : ¬ (256 : Int32) ≤ nI s := nI_ge (b := 256) hs6 (by decide)
    refine br_f h ⟨ap_inj8 hs6, br_c (fun f0 => nm_r (nI_1 s) (ih (s + 1) (by omega) m G hG ?_)) (fun f1 => ?_)⟩
    · rw [ap_cl hs6] at f0
      rcases hI with hI | hI
      · refine Or.inl ⟨hI.1, hI.2.1, ap_thr_s g ne ba ad dr hI.2.2 (fun z => ?_)⟩
        rw [hI.2.1] at f0
        exact absurd f0 z
      · exact Or.inr hI
    · rw [ap_cl hs6] at f1
      refine Exists.intro 11 (ap_ySpr nw gt gf g ne ba ad dr co hA M hs6 G _ (fun m' G' hG' hI' => ?_) 10 0 (by omega) 0 G hG f1 (Or.inl ⟨rfl, rfl, fun b t hb => absurd hb (by omega)⟩))
      rcases hI' with ⟨rfl, rfl, hc⟩ | ⟨rfl, hlt⟩
      · refine br_t rfl (nm_r (nI_1 s) (ih (s + 1) (by omega) m G' hG' ?_))
        rcases hI with hI | hI
        · refine Or.inl ⟨hI.1, hI.2.1, ap_thr_s g ne ba ad dr hI.2.2 (fun z => ?_)⟩
          rw [← hI.2.1]
          exact ap_cov_end g ne ba ad dr hc
        · exact Or.inr hI
      · refine br_f (by decide) (nm_r (nI_1 s) (ih (s + 1) (by omega) 1 G' hG' (Or.inr ⟨rfl, ?_⟩)))
        rcases hI with hI | hI
        · rw [← hI.2.1]; exact hlt
        · have := hI.2; omega
theorem ap_yOut (hA : ap_A g ad co) (M : Nat → Int32) {s0 : Nat} (post : Int32 → SY → Prop)
    (hpost : ∀ G : Nat → Int32, ap_clo (ap_R g ne ba ad dr) s0 G → ∃ n : Nat, wY_reachable_95 post nw gt gf g ne ba ad dr co M G n 0 0) :
    ∀ d r : Nat, r + d = 256 → ∀ (m : Int32) (G : Nat → Int32), ap_snd (ap_R g ne ba ad dr) s0 G → ((m = 0 ∧ ap_thr g ne ba ad dr 256 G) ∨ (m = 1 ∧ r < ap_cnt G 256)) →
      wY_reachable_38 post (d + 1) m (nI r) nw gt gf g ne ba ad dr co M G := by
  intro d
  induction d with
  | zero =>
    intro r hr m G hG hI
    have h : (256 : Int32) ≤ nI r := nI_le (a := 256) (by omega) (by omega)
    rcases hI with hI | hI
    · exact br_t h (hpost G ⟨hG, fun x y hx hy => hI.2 x y hx hx hy⟩)
    · have := ap_cnt_le G 256
      have := hI.2
      omega
  | succ d ih =>
    intro r hr m G hG hI
    have h : ¬ (256 : Int32) ≤ nI r := nI_ge (b := 256) (by omega) (by decide)
    rcases hI with ⟨rfl, hI⟩ | ⟨rfl, hI⟩
    · exact br_f h (br_t rfl (hpost G ⟨hG, fun x y hx hy => hI x y hx hx hy⟩))
    · refine br_f h (br_f (by decide) (Exists.intro 257 (ap_yRnd nw gt gf g ne ba ad dr co hA M G post _ (nI r) (fun m' G' hG' hI' => ?_) 256 0 (by omega) 0 G hG (Or.inl ⟨rfl, rfl, fun x y hx => absurd hx (by omega)⟩))))
      rw [nI_1 r]
      refine ih (r + 1) (by omega) m' G' hG' ?_
      rcases hI' with ⟨rfl, rfl, hc⟩ | ⟨rfl, hlt⟩
      · exact Or.inl ⟨rfl, hc⟩
      · exact Or.inr ⟨rfl, by omega⟩
theorem ap_yCnt (M G : Nat → Int32) (post : Int32 → SY → Prop) (hp : post (nI (ap_cnt G 256)) (nw, gt, gf, g, ne, ba, ad, dr, co, M, G)) :
    ∀ d s : Nat, s + d = 256 → wY_reachable_95 post nw gt gf g ne ba ad dr co M G (d + 1) (nI (ap_cnt G s)) (nI s) := by
  intro d
  induction d with
  | zero =>
    intro s hs
    have e : s = 256 := by omega
    subst e
    have h : (256 : Int32) ≤ nI 256 := nI_le (a := 256) (by omega) (by omega)
    exact br_t h hp
  | succ d ih =>
    intro s hs
    have hs6 : s < 256 := by omega
    have h : ¬ (256 : Int32) ≤ nI s := nI_ge (b := 256) hs6 (by decide)
    have hi := ih (s + 1) (by omega)
    refine br_f h ⟨ap_inj8 hs6, br_c (fun f0 => nm_r (nI_1 s) ?_) (fun f1 => nm_r (nI_1 _) (nm_r (nI_1 s) ?_))⟩
    · rw [ap_cl hs6] at f0
      rw [ap_cnt_s, if_pos f0] at hi
      exact hi
    · rw [ap_cl hs6] at f1
      rw [ap_cnt_s, if_neg f1] at hi
      exact hi
theorem ap_yIni (M : Nat → Int32) (post : Int32 → SY → Prop) {j : Nat} (hj : j < 256)
    (hpost : ∀ G : Nat → Int32, (∀ i, i < 256 → G i = if i = j then 1 else 0) → ∃ n : Nat, wY_reachable_38 post n 1 0 (nI j) gt gf g ne ba ad dr co M G) :
    ∀ d s : Nat, s + d = 256 → ∀ G : Nat → Int32, (∀ i, i < s → G i = if i = j then 1 else 0) → wY_reachable_2 post (nI j) gt gf (d + 1) (nI s) g ne ba ad dr co M G := by
  intro d
  induction d with
  | zero =>
    intro s hs G hG
    have h : (256 : Int32) ≤ nI s := nI_le (a := 256) (by omega) (by omega)
    exact br_t h (hpost G (fun i hi => hG i (by omega)))
  | succ d ih =>
    intro s hs G hG
    have hs6 : s < 256 := by omega
    have h : ¬ (256 : Int32) ≤ nI s := nI_ge (b := 256) hs6 (by decide)
    have e0 : upd G (nI s).toNatClampNeg (vp_nar .boolean 0) = upd G s 0 := by rw [ap_cl hs6, ap_v0]
    have e1 : upd G (nI s).toNatClampNeg (vp_nar .boolean 1) = upd G s 1 := by rw [ap_cl hs6, ap_v1]
    refine br_f h (br_c (fun c1 => ⟨ap_inj8 hs6, nm_r e1 (nm_r (nI_1 s) (ih (s + 1) (by omega) _ (fun i hi => ?_)))⟩) (fun c0 => ⟨ap_inj8 hs6, nm_r e0 (nm_r (nI_1 s) (ih (s + 1) (by omega) _ (fun i hi => ?_)))⟩))
    · have := ap_inj hs6 hj c1
      by_cases e : i = s
      · rw [e, pk_us, if_pos this]
      · rw [pk_un e]; exact hG i (by omega)
    · by_cases e : i = s
      · rw [e, pk_us, if_neg (fun z => c0 (by rw [z]))]
      · rw [pk_un e]; exact hG i (by omega)
theorem ap_yReach (hA : ap_A g ad co) (M G : Nat → Int32) (post : Int32 → SY → Prop) {j : Nat} (hj : j < 256)
    (hpost : ∀ G : Nat → Int32, ap_clo (ap_R g ne ba ad dr) j G → post (nI (ap_cnt G 256)) (nI j, gt, gf, g, ne, ba, ad, dr, co, M, G)) : wpY_reachable post (nI j, gt, gf, g, ne, ba, ad, dr, co, M, G) := by
  refine Exists.intro 257 (ap_yIni gt gf g ne ba ad dr co M post hj (fun G' hG' => Exists.intro 257 (ap_yOut (nI j) gt gf g ne ba ad dr co hA M (s0 := j) post (fun G2 hc => Exists.intro 257 (ap_yCnt (nI j) gt gf g ne ba ad dr co M G2 post (hpost G2 hc) 256 0 (by omega))) 256 0 (by omega) 1 G' (ap_snd_0 ?_ ?_) (Or.inr ⟨rfl, ?_⟩))) 256 0 (by omega) G (fun i hi => absurd hi (by omega)))
  · rw [hG' j hj, if_pos rfl]; decide
  · intro s hs e
    rw [hG' s hs, if_neg e]
  · refine Nat.pos_of_ne_zero (fun z => ?_)
    have h0 : ap_cnt (upd G' j 0) 256 + 1 = ap_cnt G' 256 := by
      have h2 := ap_cnt_upd (F := upd G' j 0) (k := j) (x := 1) pk_us (by decide) 256 hj
      rw [← h2]
      refine ap_cnt_eq 256 (fun s hs => ?_)
      by_cases e : s = j
      · rw [e, pk_us, hG' j hj, if_pos rfl]
      · rw [pk_un e, pk_un e]
    omega
end
end
section
/-! the relation and what is owed: both sides keep the same now state, goal and actions; the scratch arrays are free, but 0 behind their ends -/
def i_Rel (_ : Nat) (u : SX) (v : SY) : Prop := ∃ (nw gt gf : Int32) (g ne ba ad dr co L Q F M G : Nat → Int32), u = (nw, gt, gf, g, ne, ba, ad, dr, co, L, Q, F) ∧ v = (nw, gt, gf, g, ne, ba, ad, dr, co, M, G) ∧ ap_b8 nw ∧ ap_A g ad co ∧ ap_T L ∧ ap_T M
theorem ap_mk (k : Nat) {nw gt gf : Int32} {g ne ba ad dr co L Q F M G : Nat → Int32} (h1 : ap_b8 nw) (h2 : ap_A g ad co) (h3 : ap_T L) (h4 : ap_T M) : i_Rel k (nw, gt, gf, g, ne, ba, ad, dr, co, L, Q, F) (nw, gt, gf, g, ne, ba, ad, dr, co, M, G) := ⟨nw, gt, gf, g, ne, ba, ad, dr, co, L, Q, F, M, G, rfl, rfl, h1, h2, h3, h4⟩
theorem i_up {k : Nat} {u : SX} {v : SY} (h : i_Rel k u v) : i_Rel (k + 5) u v := h
theorem i_vc0 : wpX_init (fun u => wpY_init (fun v => i_Rel 0 u v)) :=
  ap_mk 0 ⟨0, by omega, rfl⟩ (fun _ _ => ⟨⟨0, by omega, rfl⟩, 0, by omega, rfl, fun z => absurd rfl z⟩) (fun _ _ => rfl) (fun _ _ => rfl)
theorem ap_A_give {g ad co : Nat → Int32} {a : Nat} (h : ap_A g ad co) : ap_A (upd g a 1) (upd ad a 0) (upd co a 1) := by
  intro b hb
  by_cases e : b = a
  · rw [e, pk_us, pk_us]
    exact ⟨⟨0, by omega, rfl⟩, 1, by omega, rfl, fun _ => Nat.le_refl 1⟩
  · rw [pk_un e, pk_un e, pk_un e]
    exact h b hb
theorem ap_A_eff {g ad co : Nat → Int32} {a c : Nat} {x : Int32} (h : ap_A g ad co) (hx : ap_b8 x) (h1 : 1 ≤ c) (h50 : c ≤ 50) : ap_A g (upd ad a x) (upd co a (nI c)) := by
  intro b hb
  by_cases e : b = a
  · rw [e, pk_us, pk_us]
    exact ⟨hx, c, h50, rfl, fun _ => h1⟩
  · rw [pk_un e, pk_un e]
    exact h b hb
theorem ap_A_drop {g ad co : Nat → Int32} {a : Nat} (h : ap_A g ad co) : ap_A (upd g a 0) ad co := by
  intro b hb
  obtain ⟨h1, c, h2, h3, h4⟩ := h b hb
  refine ⟨h1, c, h2, h3, fun z => ?_⟩
  by_cases e : b = a
  · rw [e, pk_us] at z
    exact absurd rfl z
  · rw [pk_un e] at z
    exact h4 z
theorem ap_lt10' {a : Nat} (ha : a < 10) : nI a < (10 : Int32) := nI_lt (b := 10) ha (by decide)
theorem i_vc_require {k : Nat} {u : SX} {v : SY} (I : i_Rel k u v) (hk : k + 5 ≤ 2560) (v1 : Int32) (v2 : Int32) (v3 : Int32) : wpX_require (fun r u' => wpY_require (fun r' v' => r' = r ∧ i_Rel (k + 5) u' v') v v1 v2 v3) u v1 v2 v3 := by
  obtain ⟨nw, gt, gf, g, ne, ba, ad, dr, co, L, Q, F, M, G, rfl, rfl, h1, h2, h3, h4⟩ := I
  unfold wpX_require wpY_require wX_require_49 wY_require_46
  dsimp only
  rcases pk_ix v1 (n := 10) (by decide) with h | h | ⟨a, ha, rfl⟩
  · exact br_t h (ap_yBad (br_f (by decide) ⟨rfl, ap_mk _ h1 h2 h3 h4⟩) (Or.inl h))
  · have h0 : ¬ v1 < 0 := fun z => Int32.lt_irrefl (Int32.lt_of_lt_of_le z (Int32.le_trans (by decide) h))
    have h10 : ¬ v1 < 10 := Int32.not_lt.mpr h
    exact br_f h0 (br_f h10 (ap_yBad (br_f (by decide) ⟨rfl, ap_mk _ h1 h2 h3 h4⟩) (Or.inr h)))
  · have hi := ap_ina ha
    have hp : ¬ nI a < 0 := nI_pos (by omega)
    refine br_f hp (br_t (ap_lt10' ha) ⟨hi, br_c (fun g0 => ⟨hi, nm_e ⟨hi, nm_e ⟨hi, nm_e ⟨hi, nm_e ⟨hi, nm_e ⟨hi, nm_e ?_⟩⟩⟩⟩⟩⟩) (fun g1 => ⟨hi, nm_e ⟨hi, nm_e ?_⟩⟩)⟩)
    · refine ap_yGood ha (br_t rfl ⟨hi, br_t g0 ⟨hi, nm_e ⟨hi, nm_e ⟨hi, nm_e ⟨hi, nm_e ⟨hi, nm_e ⟨hi, nm_e ⟨rfl, ?_⟩⟩⟩⟩⟩⟩⟩⟩)
      rw [ap_cla ha, ap_v1]
      exact ap_mk _ h1 (ap_A_give h2) h3 h4
    · exact ap_yGood ha (br_t rfl ⟨hi, br_f g1 ⟨hi, nm_e ⟨hi, nm_e ⟨rfl, ap_mk _ h1 h2 h3 h4⟩⟩⟩⟩)
theorem i_vc_effect {k : Nat} {u : SX} {v : SY} (I : i_Rel k u v) (hk : k + 5 ≤ 2560) (v1 : Int32) (v2 : Int32) (v3 : Int32) (v4 : Int32) : wpX_effect (fun r u' => wpY_effect (fun r' v' => r' = r ∧ i_Rel (k + 5) u' v') v v1 v2 v3 v4) u v1 v2 v3 v4 := by
  obtain ⟨nw, gt, gf, g, ne, ba, ad, dr, co, L, Q, F, M, G, rfl, rfl, h1, h2, h3, h4⟩ := I
  unfold wpX_effect wpY_effect
  dsimp only
  rcases pk_ix v1 (n := 10) (by decide) with h | h | ⟨a, ha, rfl⟩
  · exact ap_xGivenN (br_t rfl (ap_yBad (br_f (by decide) ⟨rfl, ap_mk _ h1 h2 h3 h4⟩) (Or.inl h))) (Or.inl h)
  · exact ap_xGivenN (br_t rfl (ap_yBad (br_f (by decide) ⟨rfl, ap_mk _ h1 h2 h3 h4⟩) (Or.inr h))) (Or.inr h)
  · have hi := ap_ina ha
    have ea := ap_cla ha
    refine ap_xGiven ha (fun g0 => br_t rfl (ap_yGood ha (br_t rfl ⟨hi, br_t (by rw [ea]; exact g0) ⟨rfl, ap_mk _ h1 h2 h3 h4⟩⟩))) (fun g1 => br_f (by decide) ⟨hi, nm_e ⟨hi, nm_e ?_⟩⟩)
    have g1' : ¬ g (nI a).toNatClampNeg = 0 := by rw [ea]; exact g1
    by_cases c1 : 1 ≤ v4
    · by_cases c2 : v4 ≤ 50
      · refine br_t c1 (br_t c2 ⟨hi, nm_e (ap_yGood ha (br_t rfl ⟨hi, br_f g1' ⟨hi, nm_e ⟨hi, nm_e (br_t c1 (br_t c2 ⟨hi, nm_e ⟨rfl, ?_⟩⟩))⟩⟩⟩))⟩)
        have hn : ¬ v4 < 0 := fun z => Int32.lt_irrefl (Int32.lt_of_lt_of_le z (Int32.le_trans (by decide) c1))
        obtain ⟨c, hc, rfl⟩ := nI_of2 (M := 50) (n := 50) (by decide) hn c2
        have hc1 : 1 ≤ c := (nI_leI (a := 1) (b := c) (by omega) (by omega)).mp c1
        rw [ea]
        exact ap_mk _ h1 (ap_A_eff h2 (ap_mask _) hc1 hc) h3 h4
      · refine br_t c1 (br_f c2 ⟨hi, nm_e (ap_yGood ha (br_t rfl ⟨hi, br_f g1' ⟨hi, nm_e ⟨hi, nm_e (br_t c1 (br_f c2 ⟨hi, nm_e ⟨rfl, ?_⟩⟩))⟩⟩⟩))⟩)
        rw [ea]
        exact ap_mk _ h1 (ap_A_eff (c := 50) h2 (ap_mask _) (by decide) (by decide)) h3 h4
    · refine br_f c1 ⟨hi, nm_e (ap_yGood ha (br_t rfl ⟨hi, br_f g1' ⟨hi, nm_e ⟨hi, nm_e (br_f c1 ⟨hi, nm_e ⟨rfl, ?_⟩⟩)⟩⟩⟩))⟩
      rw [ea]
      exact ap_mk _ h1 (ap_A_eff (c := 1) h2 (ap_mask _) (by decide) (by decide)) h3 h4
theorem i_vc_forget {k : Nat} {u : SX} {v : SY} (I : i_Rel k u v) (hk : k + 5 ≤ 2560) (v1 : Int32) : wpX_forget (fun r u' => wpY_forget (fun r' v' => r' = r ∧ i_Rel (k + 5) u' v') v v1) u v1 := by
  obtain ⟨nw, gt, gf, g, ne, ba, ad, dr, co, L, Q, F, M, G, rfl, rfl, h1, h2, h3, h4⟩ := I
  unfold wpX_forget wpY_forget
  dsimp only
  rcases pk_ix v1 (n := 10) (by decide) with h | h | ⟨a, ha, rfl⟩
  · exact ap_xGivenN (br_t rfl (ap_yBad (br_f (by decide) ⟨rfl, ap_mk _ h1 h2 h3 h4⟩) (Or.inl h))) (Or.inl h)
  · exact ap_xGivenN (br_t rfl (ap_yBad (br_f (by decide) ⟨rfl, ap_mk _ h1 h2 h3 h4⟩) (Or.inr h))) (Or.inr h)
  · have hi := ap_ina ha
    have ea := ap_cla ha
    refine ap_xGiven ha (fun g0 => br_t rfl (ap_yGood ha (br_t rfl ⟨hi, br_t (by rw [ea]; exact g0) ⟨rfl, ap_mk _ h1 h2 h3 h4⟩⟩))) (fun g1 => br_f (by decide) ⟨hi, nm_e (ap_yGood ha (br_t rfl ⟨hi, br_f (by rw [ea]; exact g1) ⟨hi, nm_e ⟨rfl, ?_⟩⟩⟩))⟩)
    rw [ea, ap_v0]
    exact ap_mk _ h1 (ap_A_drop h2) h3 h4
theorem i_vc_want {k : Nat} {u : SX} {v : SY} (I : i_Rel k u v) (hk : k + 5 ≤ 2560) (v1 : Int32) (v2 : Int32) : wpX_want (fun u' => wpY_want (fun v' => i_Rel (k + 5) u' v') v v1 v2) u v1 v2 := by
  obtain ⟨nw, gt, gf, g, ne, ba, ad, dr, co, L, Q, F, M, G, rfl, rfl, h1, h2, h3, h4⟩ := I
  exact nm_e (nm_e (nm_e (nm_e (ap_mk _ h1 h2 h3 h4))))
theorem i_vc_observe {k : Nat} {u : SX} {v : SY} (I : i_Rel k u v) (hk : k + 5 ≤ 2560) (v1 : Int32) : wpX_observe (fun u' => wpY_observe (fun v' => i_Rel (k + 5) u' v') v v1) u v1 := by
  obtain ⟨nw, gt, gf, g, ne, ba, ad, dr, co, L, Q, F, M, G, rfl, rfl, h1, h2, h3, h4⟩ := I
  exact nm_e (nm_e (ap_mk _ (ap_mask v1) h2 h3 h4))
theorem i_vc_now {k : Nat} {u : SX} {v : SY} (I : i_Rel k u v) (hk : k + 5 ≤ 2560) : wpX_now (fun r => wpY_now (fun r' => r' = r ∧ i_Rel (k + 5) u v) v) u := by
  obtain ⟨nw, gt, gf, g, ne, ba, ad, dr, co, L, Q, F, M, G, rfl, rfl, h1, h2, h3, h4⟩ := I
  exact And.intro rfl (ap_mk _ h1 h2 h3 h4)
theorem i_vc_price {k : Nat} {u : SX} {v : SY} (I : i_Rel k u v) (hk : k + 5 ≤ 2560) : wpX_price (fun r u' => wpY_price (fun r' v' => r' = r ∧ i_Rel (k + 5) u' v') v) u := by
  obtain ⟨nw, gt, gf, g, ne, ba, ad, dr, co, L, Q, F, M, G, rfl, rfl, h1, h2, h3, h4⟩ := I
  obtain ⟨L', hL', hX, hY⟩ := ap_work nw gt gf g ne ba ad dr co h2
  have hin := ap_in h1
  have hR := fun (r : Int32) => And.intro (rfl : r = r) (ap_mk (gt := gt) (gf := gf) (ne := ne) (ba := ba) (dr := dr) (Q := Q) (F := F) (G := G) (k + 5) h1 h2 hL'.2 hL'.2)
  obtain ⟨j, hj, rfl⟩ := h1
  obtain ⟨l, hl, el⟩ := hL'.1 j hj
  have elj : L' (nI j).toNatClampNeg = nI l := by rw [ap_cl hj]; exact el
  unfold wpX_price wpY_price
  dsimp only
  by_cases h6 : l = 1000000
  · have e1 : L' (nI j).toNatClampNeg = 1000000 := by rw [elj, h6]; rfl
    have e2 : (1000000 : Int32) ≤ L' (nI j).toNatClampNeg := by rw [e1]; decide
    exact hX _ L Q F h3 ⟨hin, br_t e1 (hY _ M G h4 ⟨hin, br_t e2 (hR _)⟩)⟩
  · have e1 : ¬ L' (nI j).toNatClampNeg = 1000000 := by
      rw [elj]
      intro z
      exact h6 ((nI_eq (a := l) (b := 1000000) (by omega) (by omega)).mp z)
    have e2 : ¬ (1000000 : Int32) ≤ L' (nI j).toNatClampNeg := by rw [elj]; exact nI_ge (b := 1000000) (by omega) (by decide)
    exact hX _ L Q F h3 ⟨hin, br_f e1 ⟨hin, hY _ M G h4 ⟨hin, br_f e2 ⟨hin, hR _⟩⟩⟩⟩
theorem i_vc_steps {k : Nat} {u : SX} {v : SY} (I : i_Rel k u v) (hk : k + 5 ≤ 2560) : wpX_steps (fun r u' => wpY_steps (fun r' v' => r' = r ∧ i_Rel (k + 5) u' v') v) u := by
  obtain ⟨nw, gt, gf, g, ne, ba, ad, dr, co, L, Q, F, M, G, rfl, rfl, h1, h2, h3, h4⟩ := I
  obtain ⟨L', hL', hX, hY⟩ := ap_work nw gt gf g ne ba ad dr co h2
  have hin := ap_in h1
  have hR := fun (r : Int32) => And.intro (rfl : r = r) (ap_mk (gt := gt) (gf := gf) (ne := ne) (ba := ba) (dr := dr) (Q := Q) (F := F) (G := G) (k + 5) h1 h2 hL'.2 hL'.2)
  obtain ⟨j, hj, rfl⟩ := h1
  obtain ⟨l, hl, el⟩ := hL'.1 j hj
  have elj : L' (nI j).toNatClampNeg = nI l := by rw [ap_cl hj]; exact el
  unfold wpX_steps wpY_steps
  dsimp only
  by_cases h6 : l = 1000000
  · have e1 : L' (nI j).toNatClampNeg = 1000000 := by rw [elj, h6]; rfl
    have e2 : ¬ L' (nI j).toNatClampNeg < 1000000 := by rw [e1]; decide
    exact hX _ L Q F h3 ⟨hin, br_t e1 (hY _ M G h4 ⟨hin, br_f e2 (hR _)⟩)⟩
  · have e1 : ¬ L' (nI j).toNatClampNeg = 1000000 := by
      rw [elj]
      intro z
      exact h6 ((nI_eq (a := l) (b := 1000000) (by omega) (by omega)).mp z)
    have e2 : L' (nI j).toNatClampNeg < 1000000 := by rw [elj]; exact nI_lt (b := 1000000) (by omega) (by decide)
    obtain ⟨r, hsX, hsY⟩ := ap_steps (nI j) gt gf g ne ba ad dr co h2 hL' 256 0 (by omega) j hj
    exact hX _ L Q F h3 ⟨hin, br_f e1 ⟨257, hsX _ Q F (hY _ M G h4 ⟨hin, br_t e2 ⟨257, hsY _ G (hR _)⟩⟩)⟩⟩
theorem i_vc_planned {k : Nat} {u : SX} {v : SY} (I : i_Rel k u v) (hk : k + 5 ≤ 2560) (v1 : Int32) : wpX_planned (fun r u' => wpY_planned (fun r' v' => r' = r ∧ i_Rel (k + 5) u' v') v v1) u v1 := by
  obtain ⟨nw, gt, gf, g, ne, ba, ad, dr, co, L, Q, F, M, G, rfl, rfl, h1, h2, h3, h4⟩ := I
  obtain ⟨L', hL', hX, hY⟩ := ap_work nw gt gf g ne ba ad dr co h2
  have hR := fun (r : Int32) => And.intro (rfl : r = r) (ap_mk (gt := gt) (gf := gf) (ne := ne) (ba := ba) (dr := dr) (Q := Q) (F := F) (G := G) (k + 5) h1 h2 hL'.2 hL'.2)
  have hR2 := fun (r : Int32) => And.intro (rfl : r = r) (ap_mk (gt := gt) (gf := gf) (ne := ne) (ba := ba) (dr := dr) (Q := Q) (F := F) (G := G) (k + 5) h1 h2 h3 hL'.2)
  obtain ⟨j, hj, rfl⟩ := h1
  unfold wpX_planned wpY_planned
  dsimp only
  rcases pk_ix v1 (n := 256) (by decide) with h | h | ⟨p, hp, rfl⟩
  · have hx : ∀ i, i < 256 → ¬ nI i = v1 := by
      intro i hi z
      rw [← z] at h
      exact nI_pos (by omega) h
    exact br_t h (hY _ M G h4 ⟨257, ap_planN (nI j) gt gf g ne ba ad dr co h2 hL' hx 256 0 (by omega) j hj _ G (hR2 _)⟩)
  · have h0 : ¬ v1 < 0 := fun z => Int32.lt_irrefl (Int32.lt_of_lt_of_le z (Int32.le_trans (by decide) h))
    have h10 : ¬ v1 < 256 := Int32.not_lt.mpr h
    have hx : ∀ i, i < 256 → ¬ nI i = v1 := by
      intro i hi z
      rw [← z] at h
      exact nI_ge hi (by decide) h
    exact br_f h0 (br_f h10 (hY _ M G h4 ⟨257, ap_planN (nI j) gt gf g ne ba ad dr co h2 hL' hx 256 0 (by omega) j hj _ G (hR2 _)⟩))
  · have hn : ¬ nI p < 0 := nI_pos (by omega)
    have hl : nI p < (256 : Int32) := nI_lt (b := 256) hp (by decide)
    obtain ⟨r, hsX, hsY⟩ := ap_plan (nI j) gt gf g ne ba ad dr co h2 hL' hp p 0 (by omega) j hj
    exact br_f hn (br_t hl (hX _ L Q F h3 ⟨p + 1, hsX _ Q F (hY _ M G h4 ⟨p + 1, hsY _ G (hR _)⟩)⟩))
theorem i_vc_advance {k : Nat} {u : SX} {v : SY} (I : i_Rel k u v) (hk : k + 5 ≤ 2560) : wpX_advance (fun r u' => wpY_advance (fun r' v' => r' = r ∧ i_Rel (k + 5) u' v') v) u := by
  obtain ⟨nw, gt, gf, g, ne, ba, ad, dr, co, L, Q, F, M, G, rfl, rfl, h1, h2, h3, h4⟩ := I
  obtain ⟨L', hL', hX, hY⟩ := ap_work nw gt gf g ne ba ad dr co h2
  have h1' := h1
  obtain ⟨j, hj, rfl⟩ := h1
  unfold wpX_advance wpY_advance
  dsimp only
  obtain ⟨r, hr, hfX, hfY⟩ := ap_first (nI j) gt gf g ne ba ad dr co h2 hL' hj
  rcases hr with rfl | ⟨a, ha, rfl⟩
  · exact hX _ L Q F h3 (hfX _ Q F (br_t ap_neg1' (hY _ M G h4 (hfY _ G (br_t ap_neg1' ⟨rfl, ap_mk _ h1' h2 hL'.2 hL'.2⟩)))))
  · obtain ⟨t, ht, et⟩ := ap_aftE (dr := dr) hj (h2 a ha).1
    have h0 : ¬ nI a < 0 := nI_pos (by omega)
    exact hX _ L Q F h3 (hfX _ Q F (br_f h0 (ap_xAft ha et (hY _ M G h4 (hfY _ G (br_f h0 (ap_yAft ha ht et ⟨rfl, ap_mk _ ⟨t, ht, rfl⟩ h2 hL'.2 hL'.2⟩)))))))
theorem i_vc_act {k : Nat} {u : SX} {v : SY} (I : i_Rel k u v) (hk : k + 5 ≤ 2560) (v1 : Int32) : wpX_act (fun r u' => wpY_act (fun r' v' => r' = r ∧ i_Rel (k + 5) u' v') v v1) u v1 := by
  obtain ⟨nw, gt, gf, g, ne, ba, ad, dr, co, L, Q, F, M, G, rfl, rfl, h1, h2, h3, h4⟩ := I
  have h1' := h1
  obtain ⟨j, hj, rfl⟩ := h1
  unfold wpX_act wpY_act
  dsimp only
  rcases pk_ix v1 (n := 10) (by decide) with h | h | ⟨a, ha, rfl⟩
  · exact ap_xGivenN (br_t rfl (ap_yBad (br_f (by decide) ⟨rfl, ap_mk _ h1' h2 h3 h4⟩) (Or.inl h))) (Or.inl h)
  · exact ap_xGivenN (br_t rfl (ap_yBad (br_f (by decide) ⟨rfl, ap_mk _ h1' h2 h3 h4⟩) (Or.inr h))) (Or.inr h)
  · obtain ⟨t, ht, et⟩ := ap_aftE (dr := dr) hj (h2 a ha).1
    refine ap_xGiven ha (fun g0 => br_t rfl (ap_yGood ha (br_t rfl (ap_yCan ha (fun z => absurd g0 z.1) (fun _ => br_t rfl ⟨rfl, ap_mk _ h1' h2 h3 h4⟩))))) (fun g1 => br_f (by decide) (ap_xCan ha (fun c => br_f (by decide) (ap_xAft ha et (ap_yGood ha (br_t rfl (ap_yCan ha (fun _ => br_f (by decide) (ap_yAft ha ht et ⟨rfl, ap_mk _ ⟨t, ht, rfl⟩ h2 h3 h4⟩)) (fun z => absurd ⟨g1, c⟩ z)))))) (fun c => br_t rfl (ap_yGood ha (br_t rfl (ap_yCan ha (fun z => absurd z.2 c) (fun _ => br_t rfl ⟨rfl, ap_mk _ h1' h2 h3 h4⟩)))))))
theorem i_vc_reachable {k : Nat} {u : SX} {v : SY} (I : i_Rel k u v) (hk : k + 5 ≤ 2560) : wpX_reachable (fun r u' => wpY_reachable (fun r' v' => r' = r ∧ i_Rel (k + 5) u' v') v) u := by
  obtain ⟨nw, gt, gf, g, ne, ba, ad, dr, co, L, Q, F, M, G, rfl, rfl, h1, h2, h3, h4⟩ := I
  have h1' := h1
  obtain ⟨j, hj, rfl⟩ := h1
  refine ap_xReach gt gf g ne ba ad dr co h2 L Q F _ hj (fun c F' Q' hF' hc => ap_yReach gt gf g ne ba ad dr co h2 M G _ hj (fun G' hG' => ⟨?_, ap_mk _ h1' h2 h3 h4⟩))
  rw [hc, ap_clo_cnt hF' hG']
end
