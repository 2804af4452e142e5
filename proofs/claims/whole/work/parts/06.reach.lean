/-! what can be reached: the queue of the component, the rounds of the reference, each against the least closed set -/
def ap_R (g ne ba ad dr : Nat → Int32) (s t : Nat) : Prop := ∃ a : Nat, a < 10 ∧ ap_can g ne ba a (nI s) ∧ ap_aft ad dr a (nI s) = nI t
/-- the actions below a lead from s into the set only -/
def ap_cov (g ne ba ad dr : Nat → Int32) (s a : Nat) (F : Nat → Int32) : Prop := ∀ b t, b < a → t < 256 → ap_can g ne ba b (nI s) → ap_aft ad dr b (nI s) = nI t → ¬ F t = 0
section
variable (nw gt gf : Int32) (g ne ba ad dr co : Nat → Int32)
theorem ap_cov_end {s : Nat} {F : Nat → Int32} (h : ap_cov g ne ba ad dr s 10 F) : ∀ t, t < 256 → ap_R g ne ba ad dr s t → ¬ F t = 0 := by
  intro t ht hr
  obtain ⟨a, ha, hc, e⟩ := hr
  exact h a t ha ht hc e
theorem ap_cov_no {s a : Nat} {F : Nat → Int32} (h : ap_cov g ne ba ad dr s a F) (hn : ¬ ap_can g ne ba a (nI s)) : ap_cov g ne ba ad dr s (a + 1) F := by
  intro b t hb ht hc e
  by_cases z : b = a
  · rw [z] at hc; exact absurd hc hn
  · exact h b t (by omega) ht hc e
theorem ap_cov_in {s a t : Nat} {F : Nat → Int32} (h : ap_cov g ne ba ad dr s a F) (ht : t < 256) (e : ap_aft ad dr a (nI s) = nI t) (hF : ¬ F t = 0) : ap_cov g ne ba ad dr s (a + 1) F := by
  intro b t' hb ht' hc e'
  by_cases z : b = a
  · rw [z, e] at e'
    rw [← ap_inj ht ht' e']
    exact hF
  · exact h b t' (by omega) ht' hc e'
theorem ap_cov_add {s a k : Nat} {F : Nat → Int32} {x : Int32} (hx : ¬ x = 0) (h : ap_cov g ne ba ad dr s a F) : ap_cov g ne ba ad dr s a (upd F k x) := fun b t hb ht hc e => ap_ne_upd hx (h b t hb ht hc e)

/-! the component's queue -/
theorem ap_xFSA (hA : ap_A g ad co) (L : Nat → Int32) {s0 p s : Nat} (hs : s < 256) (post : Int32 → SX → Prop)
    (hpost : ∀ (c : Nat) (F Q : Nat → Int32), ap_q (ap_R g ne ba ad dr) s0 p c F Q → p < c → Q p = nI s → (∀ t, t < 256 → ap_R g ne ba ad dr s t → ¬ F t = 0) → post (nI c) (nw, gt, gf, g, ne, ba, ad, dr, co, L, Q, F)) :
    ∀ d a : Nat, a + d = 10 → ∀ (c : Nat) (F Q : Nat → Int32), ap_q (ap_R g ne ba ad dr) s0 p c F Q → p < c → Q p = nI s → ¬ F s = 0 → ap_cov g ne ba ad dr s a F →
      wX_findStatesAfter_5 post (nI s) nw gt gf (d + 1) (nI c) (nI a) g ne ba ad dr co L Q F := by
  intro d
  induction d with
  | zero =>
    intro a ha c F Q hq hp hQ hF hcov
    have e : a = 10 := by omega
    subst e
    have h : (10 : Int32) ≤ nI 10 := nI_le (a := 10) (by omega) (by omega)
    exact br_t h (hpost c F Q hq hp hQ (ap_cov_end g ne ba ad dr hcov))
  | succ d ih =>
    intro a had c F Q hq hp hQ hF hcov
    have ha : a < 10 := by omega
    have h := ap_lt10 ha
    have ea := ap_cla ha
    have hia := ap_ina ha
    have hno : ¬ ap_can g ne ba a (nI s) → wX_findStatesAfter_5 post (nI s) nw gt gf (d + 1) (nI c) (nI (a + 1)) g ne ba ad dr co L Q F := fun hn => ih (a + 1) (by omega) c F Q hq hp hQ hF (ap_cov_no g ne ba ad dr hcov hn)
    obtain ⟨t, ht, et⟩ := ap_aftE (dr := dr) hs (hA a ha).1
    have hit := ap_inj8 ht
    refine br_f h ⟨hia, br_c (fun e => nm_r (nI_1 a) (hno ?_)) (fun e => ap_xCan ha (fun hc => br_f (by decide) (ap_xAft ha et ⟨hit, br_c (fun f0 => ?_) (fun f1 => nm_r (nI_1 a) ?_)⟩)) (fun hc => br_t rfl (nm_r (nI_1 a) (hno (fun z => hc z.2)))))⟩
    · rw [ea] at e
      exact fun z => z.1 e
    · rw [ap_cl ht] at f0
      rw [ea] at e
      have hc6 : c < 256 := by have := ap_cnt_lt f0 ht; have := hq.2.1; omega
      have hcc : ¬ (256 : Int32) ≤ nI c := nI_ge (b := 256) hc6 (by decide)
      have eF : upd F (nI t).toNatClampNeg (vp_nar .boolean 1) = upd F t 1 := by rw [ap_cl ht, ap_v1]
      have eQ : upd Q (nI c).toNatClampNeg (nI t) = upd Q c (nI t) := by rw [ap_cl hc6]
      have h1 : ¬ (1 : Int32) = 0 := by decide
      refine br_f hcc ⟨hit, nm_r eF ⟨ap_inj8 hc6, nm_r eQ (nm_r (nI_1 c) (nm_r (nI_1 a) (ih (a + 1) (by omega) (c + 1) (upd F t 1) (upd Q c (nI t)) ?_ (by omega) ?_ (ap_ne_upd h1 hF) ?_)))⟩⟩
      · exact ap_q_add hq h1 hs ht hF ⟨a, ha, ⟨e, hc⟩, et⟩ f0
      · rw [pk_un (by omega)]; exact hQ
      · exact ap_cov_in g ne ba ad dr (ap_cov_add g ne ba ad dr h1 hcov) ht et (by rw [pk_us]; exact h1)
    · rw [ap_cl ht] at f1
      exact ih (a + 1) (by omega) c F Q hq hp hQ hF (ap_cov_in g ne ba ad dr hcov ht et f1)
theorem ap_xOut (hA : ap_A g ad co) (L : Nat → Int32) {s0 : Nat} (post : Int32 → SX → Prop)
    (hpost : ∀ (c : Nat) (F Q : Nat → Int32), ap_clo (ap_R g ne ba ad dr) s0 F → c = ap_cnt F 256 → post (nI c) (nw, gt, gf, g, ne, ba, ad, dr, co, L, Q, F)) :
    ∀ d p : Nat, p + d = 256 → ∀ (c : Nat) (F Q : Nat → Int32), ap_q (ap_R g ne ba ad dr) s0 p c F Q → wX_reachable_46 post (d + 1) (nI c) (nI p) nw gt gf g ne ba ad dr co L Q F := by
  intro d
  induction d with
  | zero =>
    intro p hp c F Q hq
    have h : (256 : Int32) ≤ nI p := nI_le (a := 256) (by omega) (by omega)
    have e : p = c := by have := hq.1; have := hq.2.2.1; omega
    subst e
    exact br_t h (hpost p F Q (ap_q_end hq) hq.2.1)
  | succ d ih =>
    intro p hp c F Q hq
    have hp6 : p < 256 := by omega
    have hc6 := hq.1
    have h : ¬ (256 : Int32) ≤ nI p := nI_ge (b := 256) hp6 (by decide)
    by_cases e : p = c
    · subst e
      exact br_f h (br_t (nI_le (by omega) (by omega)) (hpost p F Q (ap_q_end hq) hq.2.1))
    · have hpc : p < c := by have := hq.2.2.1; omega
      have hn : ¬ nI c ≤ nI p := nI_ge hpc (by omega)
      obtain ⟨s, hs, eQ, hF⟩ := hq.2.2.2.2.1 p hpc
      refine br_f h (br_f hn ⟨ap_inj8 hp6, ?_⟩)
      rw [ap_cl hp6, eQ]
      exact Exists.intro 11 (ap_xFSA nw gt gf g ne ba ad dr co hA L hs _ (fun c' F' Q' hq' hp' hQ' hcl => nm_r (nI_1 p) (ih (p + 1) (by omega) c' F' Q' (ap_q_next hq' hp' hs hQ' hcl))) 10 0 (by omega) c F Q hq hpc eQ hF (fun b t hb => absurd hb (by omega)))
theorem ap_xClr (L Q : Nat → Int32) (post : Int32 → SX → Prop) {j : Nat} (hj : j < 256) (en : nw = nI j)
    (hpost : ∀ F : Nat → Int32, (∀ i, i < 256 → F i = 0) → ∃ n : Nat, wX_reachable_46 post n 1 0 nw gt gf g ne ba ad dr co L (upd Q 0 nw) (upd F j 1)) :
    ∀ d s : Nat, s + d = 256 → ∀ F : Nat → Int32, (∀ i, i < s → F i = 0) → wX_reachable_2 post nw gt gf (d + 1) (nI s) g ne ba ad dr co L Q F := by
  intro d
  induction d with
  | zero =>
    intro s hs F hF
    have h : (256 : Int32) ≤ nI s := nI_le (a := 256) (by omega) (by omega)
    have hin : vp_in nw 256 := by rw [en]; exact ap_inj8 hj
    have eF : upd F nw.toNatClampNeg (vp_nar .boolean 1) = upd F j 1 := by rw [en, ap_cl hj, ap_v1]
    exact br_t h ⟨hin, nm_r eF (nm_e (hpost F (fun i hi => hF i (by omega))))⟩
  | succ d ih =>
    intro s hs F hF
    have hs6 : s < 256 := by omega
    have h : ¬ (256 : Int32) ≤ nI s := nI_ge (b := 256) hs6 (by decide)
    have eF : upd F (nI s).toNatClampNeg (vp_nar .boolean 0) = upd F s 0 := by rw [ap_cl hs6, ap_v0]
    refine br_f h ⟨ap_inj8 hs6, nm_r eF (nm_r (nI_1 s) (ih (s + 1) (by omega) _ (fun i hi => ?_)))⟩
    by_cases e : i = s
    · rw [e, pk_us]
    · rw [pk_un e]; exact hF i (by omega)
theorem ap_xReach (hA : ap_A g ad co) (L Q F : Nat → Int32) (post : Int32 → SX → Prop) {j : Nat} (hj : j < 256)
    (hpost : ∀ (c : Nat) (F Q : Nat → Int32), ap_clo (ap_R g ne ba ad dr) j F → c = ap_cnt F 256 → post (nI c) (nI j, gt, gf, g, ne, ba, ad, dr, co, L, Q, F)) : wpX_reachable post (nI j, gt, gf, g, ne, ba, ad, dr, co, L, Q, F) :=
  Exists.intro 257 (ap_xClr (nI j) gt gf g ne ba ad dr co L Q post hj rfl (fun F' hF' => Exists.intro 257 (ap_xOut (nI j) gt gf g ne ba ad dr co hA L post hpost 256 0 (by omega) 1 (upd F' j 1) (upd Q 0 (nI j)) (ap_q_0 hj pk_us (by decide) hF'))) 256 0 (by omega) F (fun i hi => absurd hi (by omega)))
end
