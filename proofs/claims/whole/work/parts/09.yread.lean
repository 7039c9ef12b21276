/-! Y: what only reads -/
theorem ds_en_lt {b : Nat} (h : b ≠ 0) (hb : b < 6) : ¬ ds_en b < 0 := by rw [ds_en_n h]; exact nI_pos (by omega)
theorem ds_dv {i : Nat} (h : i < 120) : nI i / 12 = nI (i / 12) := pk_div (d := 12) (by omega) (by omega) (by omega)
theorem ds_rm {i : Nat} (h : i < 120) : nI i - nI i / 12 * 12 = nI (i % 12) := pk_rem (d := 12) (by omega) (by omega) (by omega)
/-- what Y's reading rests on -/
def ds_V (t p dx dy wd hg sh we hi so : Nat → Int32) (dp : Nat → Nat) : Prop :=
  ds_T t p dp ∧ ds_P p ∧ ds_B dx ∧ ds_B dy ∧ (∀ c, c < 6 → (0 ≤ (wd c).toInt ∧ (wd c).toInt ≤ 12) ∧ (0 ≤ (hg c).toInt ∧ (hg c).toInt ≤ 12)) ∧ (∀ c, 1 ≤ c → c < 6 → we c = wd c ∧ hi c = hg c ∧ so c = sh c) ∧ (∀ j, t j = 0 ∨ t j = 1)
section
variable {T B : Int32} {t p dx dy we hi so lv cl wt wx wy wo wc : Nat → Int32}
theorem yl_miss_n {post : Int32 → Prop} {a : Nat} (ha : a < 6) (h : t a ≠ 0) (k : post 0) : wpY_missing post (T, B, t, p, dx, dy, we, hi, so, lv, cl, wt, wx, wy, wo, wc) (nI a) :=
  br_f (nI_pos (by omega)) (br_f (nI_nlt (a := 5) (by omega) (by decide)) ⟨vp_in_nI ha (by decide), by rw [nI_clamp (by omega)]; exact br_f h k⟩)
theorem yl_miss_y {post : Int32 → Prop} {w : Int32} (h : ¬ ∃ a : Nat, a < 6 ∧ w = nI a ∧ t a ≠ 0) (k : post 1) : wpY_missing post (T, B, t, p, dx, dy, we, hi, so, lv, cl, wt, wx, wy, wo, wc) w := by
  by_cases z : w < 0
  · exact br_t z k
  · refine br_f z (br_c (fun _ => k) (fun y => ?_))
    obtain ⟨a, ha, rfl⟩ := nI_of z
    have a6 : a < 6 := by
      have e := (not_congr (nI_ltI (a := 5) (b := a) (by decide) ha)).mp y
      omega
    have z : t a = 0 := Classical.byContradiction fun z => h ⟨a, a6, rfl, z⟩
    exact ⟨vp_in_nI a6 (by decide), by rw [nI_clamp (by omega)]; exact br_t z k⟩
theorem yl_cx7 {post : Int32 → Prop} (hp : ds_P p) : ∀ m a s n (z : Int32), a < 6 → s + m = 6 → m < n → post (ds_cs dx p m a z) → wY_cornerX_7 post T B t p dx dy we hi so lv cl wt wx wy wo wc n z (nI a) (nI s) := by
  intro m
  induction m with
  | zero =>
    intro a s n z ha hs hn k
    obtain ⟨n, rfl⟩ : ∃ n', n = n' + 1 := ⟨n - 1, by omega⟩
    have e : s = 6 := by omega
    subst e
    exact br_t (by decide) k
  | succ m ih =>
    intro a s n z ha hs hn k
    obtain ⟨n, rfl⟩ : ∃ n', n = n' + 1 := ⟨n - 1, by omega⟩
    have hv : vp_in (nI a) 6 := vp_in_nI (by omega) (by decide)
    have e := nI_clamp (n := a) (by omega)
    by_cases q : a = 0
    · subst q
      rw [ds_cs_0] at k
      exact br_f (nI_ge (b := 6) (by omega) (by decide)) (br_t (by decide) k)
    · rw [ds_cs_n q] at k
      exact br_f (nI_ge (b := 6) (by omega) (by decide)) (br_f (nI_nle (by omega) (by omega)) ⟨hv, nm_r (by rw [e]) ⟨hv, nm_r (by rw [e]; exact (hp a ha).2) (nm_r (nI_1 s) (ih (ds_up p a) (s + 1) n _ (hp a ha).1 (by omega) (by omega) k))⟩⟩)
theorem yl_cornerX {post : Int32 → Prop} (hp : ds_P p) {a : Nat} (ha : a < 6) (k : post (ds_cs dx p 6 a 0)) : wpY_cornerX post (T, B, t, p, dx, dy, we, hi, so, lv, cl, wt, wx, wy, wo, wc) (nI a) :=
  ⟨7, yl_cx7 hp 6 a 0 7 0 ha (by omega) (by omega) k⟩
theorem yl_cy7 {post : Int32 → Prop} (hp : ds_P p) : ∀ m a s n (z : Int32), a < 6 → s + m = 6 → m < n → post (ds_cs dy p m a z) → wY_cornerY_7 post T B t p dx dy we hi so lv cl wt wx wy wo wc n z (nI a) (nI s) := by
  intro m
  induction m with
  | zero =>
    intro a s n z ha hs hn k
    obtain ⟨n, rfl⟩ : ∃ n', n = n' + 1 := ⟨n - 1, by omega⟩
    have e : s = 6 := by omega
    subst e
    exact br_t (by decide) k
  | succ m ih =>
    intro a s n z ha hs hn k
    obtain ⟨n, rfl⟩ : ∃ n', n = n' + 1 := ⟨n - 1, by omega⟩
    have hv : vp_in (nI a) 6 := vp_in_nI (by omega) (by decide)
    have e := nI_clamp (n := a) (by omega)
    by_cases q : a = 0
    · subst q
      rw [ds_cs_0] at k
      exact br_f (nI_ge (b := 6) (by omega) (by decide)) (br_t (by decide) k)
    · rw [ds_cs_n q] at k
      exact br_f (nI_ge (b := 6) (by omega) (by decide)) (br_f (nI_nle (by omega) (by omega)) ⟨hv, nm_r (by rw [e]) ⟨hv, nm_r (by rw [e]; exact (hp a ha).2) (nm_r (nI_1 s) (ih (ds_up p a) (s + 1) n _ (hp a ha).1 (by omega) (by omega) k))⟩⟩)
theorem yl_cornerY {post : Int32 → Prop} (hp : ds_P p) {a : Nat} (ha : a < 6) (k : post (ds_cs dy p 6 a 0)) : wpY_cornerY post (T, B, t, p, dx, dy, we, hi, so, lv, cl, wt, wx, wy, wo, wc) (nI a) :=
  ⟨7, yl_cy7 hp 6 a 0 7 0 ha (by omega) (by omega) k⟩
theorem yl_cov {post : Int32 → Prop} {wd hg sh : Nat → Int32} {dp : Nat → Nat} {c x y : Nat} (V : ds_V t p dx dy wd hg sh we hi so dp) (c1 : 1 ≤ c) (hc : c < 6) (ht : t c ≠ 0) (hx : x < 12) (hy : y < 10)
    (k1 : ds_C p dx dy wd hg sh x y c = true → post 1) (k0 : ds_C p dx dy wd hg sh x y c = false → post 0) : wpY_covers post (T, B, t, p, dx, dy, we, hi, so, lv, cl, wt, wx, wy, wo, wc) (nI c) (nI x) (nI y) := by
  obtain ⟨H, hp, hdx, hdy, hwh, hwe, -⟩ := V
  have hv : vp_in (nI c) 6 := vp_in_nI hc (by decide)
  have e := nI_clamp (n := c) (by omega)
  have hw := hwe c c1 hc
  have hb := hwh c hc
  have bx := ds_cs_5 hdx hp hc
  have b_y := ds_cs_5 hdy hp hc
  have ix := nI_toInt (n := x) (by omega)
  have iy := nI_toInt (n := y) (by omega)
  have qx := ds_cov (x := nI x) (c := ds_cs dx p 5 c 0) (w := wd c) (by omega) (by omega) (by omega) (by omega) hb.1.1 (by omega)
  have qy := ds_cov (x := nI y) (c := ds_cs dy p 5 c 0) (w := hg c) (by omega) (by omega) (by omega) (by omega) hb.2.1 (by omega)
  have no : ¬ (sh c ≠ 0 ∧ 0 ≤ nI x - ds_cs dx p 5 c 0 ∧ nI x - ds_cs dx p 5 c 0 < wd c ∧ 0 ≤ nI y - ds_cs dy p 5 c 0 ∧ nI y - ds_cs dy p 5 c 0 < hg c) → post 0 := fun z => k0 (decide_eq_false z)
  unfold wpY_covers
  refine yl_cornerX hp hc ?_
  refine yl_cornerY hp hc ?_
  rw [e, ds_cs_6 H hp hc ht, ds_cs_6 H hp hc ht, hw.1, hw.2.1, hw.2.2]
  refine ⟨hv, br_c (fun z => no (fun q => q.1 z)) (fun z1 => br_c (fun z => no (fun q => Int32.not_le.mpr z (qx.1.mp q.2.1))) (fun z2 => ⟨hv, br_c (fun z => no (fun q => Int32.not_le.mpr (qx.2.mp q.2.2.1) z)) (fun z3 => br_c (fun z => no (fun q => Int32.not_le.mpr z (qy.1.mp q.2.2.2.1))) (fun z4 => ⟨hv, br_c (fun z => no (fun q => Int32.not_le.mpr (qy.2.mp q.2.2.2.2) z)) (fun z5 => ?_)⟩))⟩))⟩
  exact k1 (decide_eq_true ⟨z1, qx.1.mpr (Int32.not_lt.mp z2), qx.2.mpr (Int32.not_le.mp z3), qy.1.mpr (Int32.not_lt.mp z4), qy.2.mpr (Int32.not_le.mp z5)⟩)
theorem yl_tm {post : Int32 → Prop} {wd hg sh : Nat → Int32} {dp : Nat → Nat} {x y a : Nat} (V : ds_V t p dx dy wd hg sh we hi so dp) (hx : x < 12) (hy : y < 10) : ∀ (m c b n : Nat), 1 ≤ c → c + m = 6 → b < 6 → m < n →
    post (ds_en (ds_tm (ds_q t p dx dy wd hg sh x y a) lv m c b)) → wY_topmost_6 post (nI a) (nI x) (nI y) T B t p dx dy we hi so lv cl wt wx wy wo wc n (ds_en b) (nI c) := by
  intro m
  induction m with
  | zero =>
    intro c b n h1 hc hb hn k
    obtain ⟨n, rfl⟩ : ∃ n', n = n' + 1 := ⟨n - 1, by omega⟩
    have e : c = 6 := by omega
    subst e
    exact br_t (by decide) k
  | succ m ih =>
    intro c b n h1 hc hb hn k
    obtain ⟨n, rfl⟩ : ∃ n', n = n' + 1 := ⟨n - 1, by omega⟩
    have hv : vp_in (nI c) 6 := vp_in_nI (by omega) (by decide)
    have e := nI_clamp (n := c) (by omega)
    have no : ¬ (ds_q t p dx dy wd hg sh x y a c = true ∧ (b = 0 ∨ lv b < lv c)) → wY_topmost_6 post (nI a) (nI x) (nI y) T B t p dx dy we hi so lv cl wt wx wy wo wc n (ds_en b) (nI (c + 1)) := by
      intro z
      rw [ds_tm_n z] at k
      exact ih (c + 1) b n (by omega) (by omega) hb (by omega) k
    have ye : (ds_q t p dx dy wd hg sh x y a c = true ∧ (b = 0 ∨ lv b < lv c)) → wY_topmost_6 post (nI a) (nI x) (nI y) T B t p dx dy we hi so lv cl wt wx wy wo wc n (nI c) (nI (c + 1)) := by
      intro z
      rw [ds_tm_y z] at k
      rw [← ds_en_n (show c ≠ 0 by omega)]
      exact ih (c + 1) c n (by omega) (by omega) (by omega) (by omega) k
    refine br_f (nI_ge (b := 6) (by omega) (by decide)) ⟨hv, ?_⟩
    rw [e]
    refine br_c (fun z => nm_r (nI_1 c) (no (fun q => (of_decide_eq_true q.1).1 z))) (fun z1 => ⟨hv, ?_⟩)
    refine br_c (fun z2 => ?_) (fun z => nm_r (nI_1 c) (no (fun q => z (of_decide_eq_true q.1).2.1)))
    refine yl_cov V h1 (by omega) z1 hx hy (fun cv => br_f (by decide) ?_) (fun cv => br_t rfl (nm_r (nI_1 c) (no (fun q => ?_))))
    · have q1 : ds_q t p dx dy wd hg sh x y a c = true := decide_eq_true ⟨z1, z2, cv⟩
      by_cases b0 : b = 0
      · subst b0
        exact br_t (by decide) (nm_r (nI_1 c) (ye ⟨q1, Or.inl rfl⟩))
      · refine br_f (ds_en_lt b0 hb) ⟨hv, ?_⟩
        rw [ds_en_n b0, nI_clamp (n := b) (by omega)]
        refine ⟨vp_in_nI hb (by decide), br_c (fun z => ?_) (fun z => ?_)⟩
        · have := no (fun q => q.2.elim b0 (fun l => Int32.not_le.mpr l z))
          rw [ds_en_n b0] at this
          exact nm_r (nI_1 c) this
        · exact nm_r (nI_1 c) (ye ⟨q1, Or.inr (Int32.not_le.mp z)⟩)
    · have := (of_decide_eq_true q.1).2.2
      rw [cv] at this
      exact absurd this (by decide)
theorem yl_top {post : Int32 → Prop} {wd hg sh : Nat → Int32} {dp : Nat → Nat} {x y a : Nat} (V : ds_V t p dx dy wd hg sh we hi so dp) (hx : x < 12) (hy : y < 10)
    (k : post (ds_en (ds_nx t p dx dy wd hg sh lv x y a))) : wpY_topmost post (T, B, t, p, dx, dy, we, hi, so, lv, cl, wt, wx, wy, wo, wc) (nI a) (nI x) (nI y) :=
  ⟨6, yl_tm V hx hy 5 1 0 6 (by omega) (by omega) (by omega) (by omega) k⟩
theorem yl_ow {post : Int32 → Prop} {wd hg sh : Nat → Int32} {dp : Nat → Nat} {x y : Nat} (V : ds_V t p dx dy wd hg sh we hi so dp) (hx : x < 12) (hy : y < 10) : ∀ (m a s n : Nat), s + m = 6 → m < n →
    post (nI (ds_ow (ds_nx t p dx dy wd hg sh lv x y) m a)) → wY_owner_27 post (nI x) (nI y) T B t p dx dy we hi so lv cl wt wx wy wo wc n (nI a) (nI s) := by
  intro m
  induction m with
  | zero =>
    intro a s n hs hn k
    obtain ⟨n, rfl⟩ : ∃ n', n = n' + 1 := ⟨n - 1, by omega⟩
    have e : s = 6 := by omega
    subst e
    exact br_t (by decide) k
  | succ m ih =>
    intro a s n hs hn k
    obtain ⟨n, rfl⟩ : ∃ n', n = n' + 1 := ⟨n - 1, by omega⟩
    refine br_f (nI_ge (b := 6) (by omega) (by decide)) (yl_top V hx hy ?_)
    by_cases z : ds_nx t p dx dy wd hg sh lv x y a = 0
    · rw [ds_ow_y z] at k
      rw [z]
      exact br_f (by decide) k
    · rw [ds_ow_n z] at k
      have b6 : ds_nx t p dx dy wd hg sh lv x y a < 6 := by
        cases ds_nx_in (t := t) (p := p) (dx := dx) (dy := dy) (wd := wd) (hg := hg) (sh := sh) (lv := lv) (x := x) (y := y) (a := a) with
        | inl e => exact absurd e z
        | inr e => exact e.2.1
      refine br_t (Int32.not_lt.mp (ds_en_lt z b6)) (nm_r (nI_1 s) ?_)
      rw [ds_en_n z]
      exact ih _ (s + 1) n (by omega) (by omega) k
theorem yl_owner {post : Int32 → Prop} {wd hg sh : Nat → Int32} {dp : Nat → Nat} {x y : Nat} (V : ds_V t p dx dy wd hg sh we hi so dp) (hx : x < 12) (hy : y < 10)
    (k : post (nI (ds_O t p dx dy wd hg sh lv x y))) : wpY_owner post (T, B, t, p, dx, dy, we, hi, so, lv, cl, wt, wx, wy, wo, wc) (nI x) (nI y) := by
  rw [← ds_O_6 V.1] at k
  exact br_f (nI_pos (by omega)) (br_f (nI_nlt (a := 11) (by omega) (by decide)) (br_f (nI_pos (by omega)) (br_t (nI_le (b := 9) (by omega) (by decide)) ⟨7, yl_ow V hx hy 6 0 0 7 (by omega) (by omega) k⟩)))
theorem yl_owner_n {post : Int32 → Prop} {A D : Int32} (h : ¬ (0 ≤ A ∧ A < 12 ∧ 0 ≤ D ∧ D < 10)) (k : post (-1)) : wpY_owner post (T, B, t, p, dx, dy, we, hi, so, lv, cl, wt, wx, wy, wo, wc) A D := by
  refine br_c (fun _ => k) (fun z1 => br_c (fun _ => k) (fun z2 => br_c (fun _ => k) (fun z3 => br_c (fun z4 => ?_) (fun _ => k))))
  obtain ⟨a, ha, rfl⟩ := nI_of z1
  obtain ⟨b, hb, rfl⟩ := nI_of z3
  have a1 := (not_congr (nI_ltI (a := 11) (b := a) (by decide) ha)).mp z2
  have b1 := (nI_leI (a := b) (b := 9) hb (by decide)).mp z4
  exact absurd ⟨nI_pos' ha, nI_lt (b := 12) (by omega) (by decide), nI_pos' hb, nI_lt (b := 10) (by omega) (by decide)⟩ h
end
