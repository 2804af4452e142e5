/-! eight bits; counting; the least closed set -/
def ap_b8 (z : Int32) : Prop := ∃ j : Nat, j < 256 ∧ z = nI j
theorem ap_mask (x : Int32) : ap_b8 (x &&& 255) := pk_andE x 8 (by decide)
theorem ap_255 {z : Int32} (h : ap_b8 z) : z &&& 255 = z := by
  obtain ⟨j, hj, rfl⟩ := h
  rw [pk_andN (by omega) 8 (by decide)]
  exact congrArg nI (Nat.mod_eq_of_lt (by omega))
theorem ap_b8I {z : Int32} (h : z &&& 255 = z) : ap_b8 z := by
  rw [← h]
  exact ap_mask z
theorem ap_aft8 {s d x : Int32} (hs : ap_b8 s) (hx : ap_b8 x) : ap_b8 ((s &&& d) ||| x) := by
  apply ap_b8I
  apply b_ext
  intro i hi
  have e1 := congrArg (fun z => bt z i) (ap_255 hs)
  have e2 := congrArg (fun z => bt z i) (ap_255 hx)
  simp only [b_and, b_or] at e1 e2 ⊢
  revert e1 e2
  cases bt s i <;> cases bt d i <;> cases bt x i <;> cases bt 255 i <;> decide
theorem ap_in {z : Int32} (h : ap_b8 z) : vp_in z 256 := by
  obtain ⟨j, hj, rfl⟩ := h
  exact vp_in_nI hj (by omega)
theorem ap_inj {a b : Nat} (ha : a < 256) (hb : b < 256) (h : nI a = nI b) : a = b := (nI_eq (by omega) (by omega)).mp h
theorem ap_cl {j : Nat} (hj : j < 256) : (nI j).toNatClampNeg = j := nI_clamp (by omega)

/-! counting -/
def ap_cnt (F : Nat → Int32) : Nat → Nat
  | 0 => 0
  | n + 1 => ap_cnt F n + (if F n = 0 then 0 else 1)
theorem ap_cnt_s (F : Nat → Int32) (n : Nat) : ap_cnt F (n + 1) = ap_cnt F n + (if F n = 0 then 0 else 1) := rfl
theorem ap_cnt_le (F : Nat → Int32) : ∀ n, ap_cnt F n ≤ n := by
  intro n
  induction n with
  | zero => exact Nat.le_refl _
  | succ n ih =>
    rw [ap_cnt_s]
    split <;> omega
theorem ap_cnt_hi {F : Nat → Int32} {k : Nat} {x : Int32} : ∀ n, n ≤ k → ap_cnt (upd F k x) n = ap_cnt F n := by
  intro n
  induction n with
  | zero => intro _; rfl
  | succ n ih =>
    intro h
    rw [ap_cnt_s, ap_cnt_s, ih (by omega), pk_un (by omega)]
theorem ap_cnt_upd {F : Nat → Int32} {k : Nat} {x : Int32} (h0 : F k = 0) (hx : ¬ x = 0) : ∀ n, k < n → ap_cnt (upd F k x) n = ap_cnt F n + 1 := by
  intro n
  induction n with
  | zero => intro h; omega
  | succ n ih =>
    intro h
    rw [ap_cnt_s, ap_cnt_s]
    by_cases e : n = k
    · subst e
      rw [ap_cnt_hi n (Nat.le_refl _), pk_us, if_neg hx, if_pos h0]
    · rw [ih (by omega), pk_un e]
      omega
theorem ap_cnt_lt {F : Nat → Int32} {k n : Nat} (h0 : F k = 0) (hk : k < n) : ap_cnt F n < n := by
  have h1 := ap_cnt_upd (x := 1) h0 (by decide) n hk
  have h2 := ap_cnt_le (upd F k 1) n
  omega
theorem ap_cnt_eq {F G : Nat → Int32} : ∀ n, (∀ s, s < n → (F s = 0 ↔ G s = 0)) → ap_cnt F n = ap_cnt G n := by
  intro n
  induction n with
  | zero => intro _; rfl
  | succ n ih =>
    intro h
    rw [ap_cnt_s, ap_cnt_s, ih (fun s hs => h s (by omega))]
    by_cases e : F n = 0
    · rw [if_pos e, if_pos ((h n (by omega)).mp e)]
    · rw [if_neg e, if_neg (fun z => e ((h n (by omega)).mpr z))]
theorem ap_cnt_z {F : Nat → Int32} : ∀ n, (∀ s, s < n → F s = 0) → ap_cnt F n = 0 := by
  intro n
  induction n with
  | zero => intro _; rfl
  | succ n ih =>
    intro h
    rw [ap_cnt_s, ih (fun s hs => h s (by omega)), if_pos (h n (by omega))]
theorem ap_ne_upd {F : Nat → Int32} {k : Nat} {x : Int32} (hx : ¬ x = 0) {j : Nat} (h : ¬ F j = 0) : ¬ upd F k x j = 0 := by
  by_cases e : j = k
  · rw [e, pk_us]; exact hx
  · rw [pk_un e]; exact h

/-! the least closed set -/
def ap_rch (R : Nat → Nat → Prop) (s0 s : Nat) : Prop := ∀ P : Nat → Prop, P s0 → (∀ x y, x < 256 → y < 256 → P x → R x y → P y) → P s
theorem ap_rch0 (R : Nat → Nat → Prop) (s0 : Nat) : ap_rch R s0 s0 := fun _ h _ => h
theorem ap_rchS {R : Nat → Nat → Prop} {s0 s t : Nat} (h : ap_rch R s0 s) (hs : s < 256) (ht : t < 256) (r : R s t) : ap_rch R s0 t := fun P h0 hc => hc s t hs ht (h P h0 hc) r
/-- what both sides keep: the start is in, and all that is in can be reached -/
def ap_snd (R : Nat → Nat → Prop) (s0 : Nat) (F : Nat → Int32) : Prop := ¬ F s0 = 0 ∧ ∀ s, s < 256 → ¬ F s = 0 → ap_rch R s0 s
def ap_clo (R : Nat → Nat → Prop) (s0 : Nat) (F : Nat → Int32) : Prop := ap_snd R s0 F ∧ ∀ x y, x < 256 → y < 256 → ¬ F x = 0 → R x y → ¬ F y = 0
theorem ap_clo_sub {R : Nat → Nat → Prop} {s0 : Nat} {F G : Nat → Int32} (hF : ap_clo R s0 F) (hG : ap_clo R s0 G) {s : Nat} (hs : s < 256) (h : F s = 0) : G s = 0 :=
  Classical.byContradiction fun hg => hG.1.2 s hs hg (fun x => ¬ F x = 0) hF.1.1 hF.2 h
theorem ap_clo_cnt {R : Nat → Nat → Prop} {s0 : Nat} {F G : Nat → Int32} (hF : ap_clo R s0 F) (hG : ap_clo R s0 G) : ap_cnt F 256 = ap_cnt G 256 :=
  ap_cnt_eq 256 fun _ hs => ⟨ap_clo_sub hF hG hs, ap_clo_sub hG hF hs⟩
theorem ap_snd_add {R : Nat → Nat → Prop} {s0 s t : Nat} {F : Nat → Int32} {x : Int32} (h : ap_snd R s0 F) (hx : ¬ x = 0) (hs : s < 256) (ht : t < 256) (hF : ¬ F s = 0) (r : R s t) : ap_snd R s0 (upd F t x) := by
  refine ⟨ap_ne_upd hx h.1, fun y hy hn => ?_⟩
  by_cases e : y = t
  · rw [e]; exact ap_rchS (h.2 s hs hF) hs ht r
  · rw [pk_un e] at hn; exact h.2 y hy hn
theorem ap_snd_0 {R : Nat → Nat → Prop} {s0 : Nat} {F : Nat → Int32} (h0 : ¬ F s0 = 0) (h : ∀ s, s < 256 → ¬ s = s0 → F s = 0) : ap_snd R s0 F := by
  refine ⟨h0, fun s hs hn => ?_⟩
  by_cases e : s = s0
  · rw [e]; exact ap_rch0 R s0
  · exact absurd (h s hs e) hn

/-! the queue: c found, p of them gone through -/
def ap_q (R : Nat → Nat → Prop) (s0 p c : Nat) (F Q : Nat → Int32) : Prop :=
  c ≤ 256 ∧ c = ap_cnt F 256 ∧ p ≤ c ∧ ap_snd R s0 F ∧
  (∀ i, i < c → ∃ s, s < 256 ∧ Q i = nI s ∧ ¬ F s = 0) ∧
  (∀ s, s < 256 → ¬ F s = 0 → ∃ i, i < c ∧ Q i = nI s) ∧
  (∀ i, i < p → ∀ s, s < 256 → Q i = nI s → ∀ t, t < 256 → R s t → ¬ F t = 0)
theorem ap_q_add {R : Nat → Nat → Prop} {s0 p c s t : Nat} {F Q : Nat → Int32} {x : Int32} (h : ap_q R s0 p c F Q) (hx : ¬ x = 0) (hs : s < 256) (ht : t < 256) (hF : ¬ F s = 0) (r : R s t) (h0 : F t = 0) : ap_q R s0 p (c + 1) (upd F t x) (upd Q c (nI t)) := by
  obtain ⟨h1, h2, h3, h4, h5, h6, h7⟩ := h
  have hc : c < 256 := by have := ap_cnt_lt h0 ht; omega
  refine ⟨by omega, by rw [ap_cnt_upd h0 hx 256 ht, ← h2], by omega, ap_snd_add h4 hx hs ht hF r, ?_, ?_, ?_⟩
  · intro i hi
    by_cases e : i = c
    · exact ⟨t, ht, by rw [e, pk_us], by rw [pk_us]; exact hx⟩
    · obtain ⟨y, hy, e1, e2⟩ := h5 i (by omega)
      exact ⟨y, hy, by rw [pk_un e]; exact e1, ap_ne_upd hx e2⟩
  · intro y hy hn
    by_cases e : y = t
    · exact ⟨c, by omega, by rw [e, pk_us]⟩
    · rw [pk_un e] at hn
      obtain ⟨i, hi, e1⟩ := h6 y hy hn
      exact ⟨i, by omega, by rw [pk_un (by omega)]; exact e1⟩
  · intro i hi y hy e1 z hz r1
    rw [pk_un (by omega)] at e1
    exact ap_ne_upd hx (h7 i hi y hy e1 z hz r1)
theorem ap_q_next {R : Nat → Nat → Prop} {s0 p c s : Nat} {F Q : Nat → Int32} (h : ap_q R s0 p c F Q) (hp : p < c) (hs : s < 256) (hQ : Q p = nI s) (hn : ∀ t, t < 256 → R s t → ¬ F t = 0) : ap_q R s0 (p + 1) c F Q := by
  obtain ⟨h1, h2, h3, h4, h5, h6, h7⟩ := h
  refine ⟨h1, h2, by omega, h4, h5, h6, ?_⟩
  intro i hi y hy e1 z hz r1
  by_cases e : i = p
  · rw [e, hQ] at e1
    rw [← ap_inj hs hy e1] at r1
    exact hn z hz r1
  · exact h7 i (by omega) y hy e1 z hz r1
theorem ap_q_end {R : Nat → Nat → Prop} {s0 c : Nat} {F Q : Nat → Int32} (h : ap_q R s0 c c F Q) : ap_clo R s0 F := by
  obtain ⟨h1, h2, h3, h4, h5, h6, h7⟩ := h
  refine ⟨h4, fun x y hx hy hF r => ?_⟩
  obtain ⟨i, hi, e⟩ := h6 x hx hF
  exact h7 i hi x hx e y hy r
theorem ap_q_0 {R : Nat → Nat → Prop} {s0 : Nat} {F Q : Nat → Int32} (hs : s0 < 256) (hQ : Q 0 = nI s0) {x : Int32} (hx : ¬ x = 0) (h : ∀ s, s < 256 → F s = 0) : ap_q R s0 0 1 (upd F s0 x) Q := by
  refine ⟨by omega, ?_, by omega, ap_snd_0 (by rw [pk_us]; exact hx) (fun s hs e => by rw [pk_un e]; exact h s hs), ?_, ?_, ?_⟩
  · rw [ap_cnt_upd (h s0 hs) hx 256 hs, ap_cnt_z 256 h]
  · intro i hi
    have e : i = 0 := by omega
    exact ⟨s0, hs, by rw [e]; exact hQ, by rw [pk_us]; exact hx⟩
  · intro y hy hn
    by_cases e : y = s0
    · exact ⟨0, by omega, by rw [e]; exact hQ⟩
    · rw [pk_un e] at hn
      exact absurd (h y hy) hn
  · intro i hi
    omega
