/-! X: what only reads -/
theorem ds_nar0 : vp_nar .boolean 0 = 0 := by decide
theorem ds_nar1 : vp_nar .boolean 1 = 1 := by decide
theorem ds_nar {x : Int32} (h : x = 0 ∨ x = 1) : vp_nar .boolean x = x := by
  cases h with
  | inl h => rw [h]; exact ds_nar0
  | inr h => rw [h]; exact ds_nar1
section
variable {T B : Int32} {t p dx dy wd hg sh lv cx cy ow cl fx fy fo fc : Nat → Int32}
theorem xl_there_y {post : Int32 → Prop} {a : Nat} (ha : a < 6) (h : t a ≠ 0) (k : post 1) : wpX_isThere post (T, B, t, p, dx, dy, wd, hg, sh, lv, cx, cy, ow, cl, fx, fy, fo, fc) (nI a) :=
  br_f (nI_pos (by omega)) (br_f (nI_ge (b := 6) ha (by decide)) ⟨vp_in_nI ha (by decide), by rw [nI_clamp (by omega)]; exact br_f h k⟩)
theorem xl_there_n {post : Int32 → Prop} {w : Int32} (h : ¬ ∃ a : Nat, a < 6 ∧ w = nI a ∧ t a ≠ 0) (k : post 0) : wpX_isThere post (T, B, t, p, dx, dy, wd, hg, sh, lv, cx, cy, ow, cl, fx, fy, fo, fc) w := by
  rcases pk_ix w (n := 6) (by decide) with h0 | h0 | ⟨a, ha, rfl⟩
  · exact br_t h0 k
  · exact br_c (fun _ => k) (fun _ => br_t h0 k)
  · have z : t a = 0 := Classical.byContradiction fun z => h ⟨a, ha, rfl, z⟩
    exact br_f (nI_pos (by omega)) (br_f (nI_ge (b := 6) ha (by decide)) ⟨vp_in_nI ha (by decide), by rw [nI_clamp (by omega)]; exact br_t z k⟩)
theorem xl_chg_y {post : Int32 → Prop} {a : Nat} (h0 : a ≠ 0) (ha : a < 6) (h : t a ≠ 0) (k : post 1) : wpX_isChangeable post (T, B, t, p, dx, dy, wd, hg, sh, lv, cx, cy, ow, cl, fx, fy, fo, fc) (nI a) :=
  br_f (nI_ne0 (by omega) (by omega)) (xl_there_y ha h (br_f (by decide) k))
theorem xl_chg_n {post : Int32 → Prop} {w : Int32} (h : ¬ ∃ a : Nat, a ≠ 0 ∧ a < 6 ∧ w = nI a ∧ t a ≠ 0) (k : post 0) : wpX_isChangeable post (T, B, t, p, dx, dy, wd, hg, sh, lv, cx, cy, ow, cl, fx, fy, fo, fc) w := by
  by_cases z : w = 0
  · exact br_t z k
  · refine br_f z (xl_there_n (fun e => ?_) (br_t rfl k))
    obtain ⟨a, ha, e, ht⟩ := e
    exact h ⟨a, fun y => z (by rw [e, y]; rfl), ha, e, ht⟩
theorem xl_side {post : Int32 → Prop} {s : Int32} (k : post (ds_ln s)) : wpX_sideOf post s := by
  unfold ds_ln at k
  by_cases z : s = 0
  · rw [if_pos z] at k; exact br_t z k
  · rw [if_neg z] at k
    by_cases y : 12 < s
    · rw [if_pos y] at k; exact br_f z (br_f (Int32.not_le.mpr y) k)
    · rw [if_neg y] at k; exact br_f z (br_t (Int32.not_lt.mp y) k)
theorem xl_cov {post : Int32 → Prop} {c x y : Nat} (hc : c < 6) (ex : cx c = ds_cs dx p 5 c 0) (ey : cy c = ds_cs dy p 5 c 0)
    (k1 : ds_C p dx dy wd hg sh x y c = true → post 1) (k0 : ds_C p dx dy wd hg sh x y c = false → post 0) : wpX_covers post (T, B, t, p, dx, dy, wd, hg, sh, lv, cx, cy, ow, cl, fx, fy, fo, fc) (nI c) (nI x) (nI y) := by
  have hv : vp_in (nI c) 6 := vp_in_nI hc (by decide)
  have e := nI_clamp (n := c) (by omega)
  have no : ¬ (sh c ≠ 0 ∧ 0 ≤ nI x - ds_cs dx p 5 c 0 ∧ nI x - ds_cs dx p 5 c 0 < wd c ∧ 0 ≤ nI y - ds_cs dy p 5 c 0 ∧ nI y - ds_cs dy p 5 c 0 < hg c) → post 0 := fun z => k0 (decide_eq_false z)
  refine ⟨hv, nm_e ⟨hv, nm_e ⟨hv, ?_⟩⟩⟩
  rw [e, ex, ey]
  refine br_c (fun z => no (fun q => q.1 z)) (fun z1 => br_c (fun z => no (fun q => Int32.not_lt.mpr q.2.1 z)) (fun z2 => ⟨hv, br_c (fun z => no (fun q => Int32.not_le.mpr q.2.2.1 z)) (fun z3 => br_c (fun z => no (fun q => Int32.not_lt.mpr q.2.2.2.1 z)) (fun z4 => ⟨hv, br_c (fun z => no (fun q => Int32.not_le.mpr q.2.2.2.2 z)) (fun z5 => ?_)⟩))⟩))
  exact k1 (decide_eq_true ⟨z1, Int32.not_lt.mp z2, Int32.not_le.mp z3, Int32.not_lt.mp z4, Int32.not_le.mp z5⟩)
end
/-- a topmost window as an int: 0 is none -/
def ds_en (b : Nat) : Int32 := if b = 0 then -1 else nI b
theorem ds_en_n {b : Nat} (h : b ≠ 0) : ds_en b = nI b := if_neg h
theorem ds_en_0 : ds_en 0 = -1 := rfl
theorem ds_en_m {b : Nat} (h : b ≠ 0) (hb : b < 6) : ¬ ds_en b = -1 := by
  rw [ds_en_n h]
  intro z
  have e : (nI b).toInt = (-1 : Int32).toInt := by rw [z]
  rw [nI_toInt (by omega), show (-1 : Int32).toInt = -1 from by decide] at e
  omega
section
variable {T B : Int32} {t p dx dy wd hg sh lv cx cy ow cl fx fy fo fc : Nat → Int32} {x y : Nat}
theorem xl_tm {post : Int32 → Prop} {a : Nat} (hcx : ∀ c, c < 6 → t c ≠ 0 → cx c = ds_cs dx p 5 c 0 ∧ cy c = ds_cs dy p 5 c 0) : ∀ (m c b n : Nat), 1 ≤ c → c + m = 6 → b < 6 → m < n →
    post (ds_en (ds_tm (ds_q t p dx dy wd hg sh x y a) lv m c b)) → wX_topmostInside_6 post (nI a) (nI x) (nI y) T B t p dx dy wd hg sh lv cx cy ow cl fx fy fo fc n (ds_en b) (nI c) := by
  intro m
  induction m with
  | zero =>
    intro c b n h1 hc hb hn k
    obtain ⟨n, rfl⟩ : ∃ n', n = n' + 1 := ⟨n - 1, by omega⟩
    have e : c = 6 := by omega
    subst e
    exact br_t (by decide) k
  | succ m ih =>
    intro c b n h1 hc hb hn k
    obtain ⟨n, rfl⟩ : ∃ n', n = n' + 1 := ⟨n - 1, by omega⟩
    have hv : vp_in (nI c) 6 := vp_in_nI (by omega) (by decide)
    have e := nI_clamp (n := c) (by omega)
    have no : ¬ (ds_q t p dx dy wd hg sh x y a c = true ∧ (b = 0 ∨ lv b < lv c)) → wX_topmostInside_6 post (nI a) (nI x) (nI y) T B t p dx dy wd hg sh lv cx cy ow cl fx fy fo fc n (ds_en b) (nI (c + 1)) := by
      intro z
      rw [ds_tm_n z] at k
      exact ih (c + 1) b n (by omega) (by omega) hb (by omega) k
    have ye : (ds_q t p dx dy wd hg sh x y a c = true ∧ (b = 0 ∨ lv b < lv c)) → wX_topmostInside_6 post (nI a) (nI x) (nI y) T B t p dx dy wd hg sh lv cx cy ow cl fx fy fo fc n (nI c) (nI (c + 1)) := by
      intro z
      rw [ds_tm_y z] at k
      rw [← ds_en_n (show c ≠ 0 by omega)]
      exact ih (c + 1) c n (by omega) (by omega) (by omega) (by omega) k
    refine br_f (nI_ge (b := 6) (by omega) (by decide)) ⟨hv, ?_⟩
    rw [e]
    refine br_c (fun z => nm_r (nI_1 c) (no (fun q => (of_decide_eq_true q.1).1 z))) (fun z1 => ⟨hv, ?_⟩)
    refine br_c (fun z2 => ?_) (fun z => nm_r (nI_1 c) (no (fun q => z (of_decide_eq_true q.1).2.1)))
    have hC := hcx c (by omega) z1
    refine xl_cov (by omega) hC.1 hC.2 (fun cv => br_f (by decide) ?_) (fun cv => br_t rfl (nm_r (nI_1 c) (no (fun q => ?_))))
    · have q1 : ds_q t p dx dy wd hg sh x y a c = true := decide_eq_true ⟨z1, z2, cv⟩
      by_cases b0 : b = 0
      · subst b0
        exact br_t rfl (nm_r (nI_1 c) (ye ⟨q1, Or.inl rfl⟩))
      · refine br_f (ds_en_m b0 hb) ⟨hv, ?_⟩
        rw [ds_en_n b0, nI_clamp (n := b) (by omega)]
        refine ⟨vp_in_nI hb (by decide), br_c (fun z => ?_) (fun z => ?_)⟩
        · have := no (fun q => q.2.elim b0 (fun l => Int32.not_le.mpr l z))
          rw [ds_en_n b0] at this
          exact nm_r (nI_1 c) this
        · exact nm_r (nI_1 c) (ye ⟨q1, Or.inr (Int32.not_le.mp z)⟩)
    · have := (of_decide_eq_true q.1).2.2
      rw [cv] at this
      exact absurd this (by decide)
theorem xl_top {post : Int32 → Prop} {a : Nat} (hcx : ∀ c, c < 6 → t c ≠ 0 → cx c = ds_cs dx p 5 c 0 ∧ cy c = ds_cs dy p 5 c 0)
    (k : post (ds_en (ds_nx t p dx dy wd hg sh lv x y a))) : wpX_topmostInside post (T, B, t, p, dx, dy, wd, hg, sh, lv, cx, cy, ow, cl, fx, fy, fo, fc) (nI a) (nI x) (nI y) :=
  ⟨6, xl_tm hcx 5 1 0 6 (by omega) (by omega) (by omega) (by omega) k⟩
theorem xl_ow {post : Int32 → Prop} (hcx : ∀ c, c < 6 → t c ≠ 0 → cx c = ds_cs dx p 5 c 0 ∧ cy c = ds_cs dy p 5 c 0) : ∀ (m a s n : Nat), s + m = 6 → m < n →
    post (nI (ds_ow (ds_nx t p dx dy wd hg sh lv x y) m a)) → wX_findOwner_5 post (nI x) (nI y) T B t p dx dy wd hg sh lv cx cy ow cl fx fy fo fc n (nI a) (nI s) := by
  intro m
  induction m with
  | zero =>
    intro a s n hs hn k
    obtain ⟨n, rfl⟩ : ∃ n', n = n' + 1 := ⟨n - 1, by omega⟩
    have e : s = 6 := by omega
    subst e
    exact br_t (by decide) k
  | succ m ih =>
    intro a s n hs hn k
    obtain ⟨n, rfl⟩ : ∃ n', n = n' + 1 := ⟨n - 1, by omega⟩
    refine br_f (nI_ge (b := 6) (by omega) (by decide)) (xl_top hcx ?_)
    by_cases z : ds_nx t p dx dy wd hg sh lv x y a = 0
    · rw [ds_ow_y z] at k
      rw [z]
      exact br_t rfl k
    · rw [ds_ow_n z] at k
      have b6 : ds_nx t p dx dy wd hg sh lv x y a < 6 := by
        cases ds_nx_in (t := t) (p := p) (dx := dx) (dy := dy) (wd := wd) (hg := hg) (sh := sh) (lv := lv) (x := x) (y := y) (a := a) with
        | inl e => exact absurd e z
        | inr e => exact e.2.1
      refine br_f (ds_en_m z b6) (nm_r (nI_1 s) ?_)
      rw [ds_en_n z]
      exact ih _ (s + 1) n (by omega) (by omega) k
theorem xl_find {post : Int32 → Prop} (hcx : ∀ c, c < 6 → t c ≠ 0 → cx c = ds_cs dx p 5 c 0 ∧ cy c = ds_cs dy p 5 c 0)
    (k : post (nI (ds_O t p dx dy wd hg sh lv x y))) : wpX_findOwner post (T, B, t, p, dx, dy, wd, hg, sh, lv, cx, cy, ow, cl, fx, fy, fo, fc) (nI x) (nI y) :=
  ⟨6, xl_ow hcx 5 0 1 6 (by omega) (by omega) k⟩
end
