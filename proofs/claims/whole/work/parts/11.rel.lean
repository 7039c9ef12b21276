/-! the relation; owner, dirty, visible, paint -/
def i_Rel (k : Nat) (u : SX) (v : SY) : Prop :=
  ∃ (T B : Int32) (t p dx dy wd hg sh lv cx cy ow cl fx fy fo fc we hi so wt wx wy wo wc : Nat → Int32) (dp : Nat → Nat),
    u = (T, B, t, p, dx, dy, wd, hg, sh, lv, cx, cy, ow, cl, fx, fy, fo, fc) ∧ v = (T, B, t, p, dx, dy, we, hi, so, lv, cl, wt, wx, wy, wo, wc) ∧ ds_V t p dx dy wd hg sh we hi so dp ∧ ds_XC t p dx dy wd hg sh lv cx cy ow
theorem i_up {k : Nat} {u : SX} {v : SY} (h : i_Rel k u v) : i_Rel (k + 5) u v := h
section
variable {T B : Int32} {t p dx dy wd hg sh lv cx cy ow cl fx fy fo fc : Nat → Int32} {we hi so wt wx wy wo wc : Nat → Int32} {dp : Nat → Nat}
theorem ds_mk {k : Nat} (V : ds_V t p dx dy wd hg sh we hi so dp) (C : ds_XC t p dx dy wd hg sh lv cx cy ow) : i_Rel k (T, B, t, p, dx, dy, wd, hg, sh, lv, cx, cy, ow, cl, fx, fy, fo, fc) (T, B, t, p, dx, dy, we, hi, so, lv, cl, wt, wx, wy, wo, wc) :=
  ⟨T, B, t, p, dx, dy, wd, hg, sh, lv, cx, cy, ow, cl, fx, fy, fo, fc, we, hi, so, wt, wx, wy, wo, wc, dp, rfl, rfl, V, C⟩
/-! visible -/
theorem xl_vis {post : Int32 → Prop} {w : Int32} (k : post (nI (ds_ct (fun j => decide (ow j = w)) 120))) : ∀ m i n, i + m = 120 → m < n → wX_visible_14 post w T B t p dx dy wd hg sh lv cx cy ow cl fx fy fo fc n (nI (ds_ct (fun j => decide (ow j = w)) i)) (nI i) := by
  intro m
  induction m with
  | zero =>
    intro i n h_i hn
    obtain ⟨n, rfl⟩ : ∃ n', n = n' + 1 := ⟨n - 1, by omega⟩
    have e : i = 120 := by omega
    subst e
    exact br_t (by decide) k
  | succ m ih =>
    intro i n h_i hn
    obtain ⟨n, rfl⟩ : ∃ n', n = n' + 1 := ⟨n - 1, by omega⟩
    have hv : vp_in (nI i) 120 := vp_in_nI (by omega) (by decide)
    have e := nI_clamp (n := i) (by omega)
    have ih' := ih (i + 1) n (by omega) (by omega)
    refine br_f (nI_ge (b := 120) (by omega) (by decide)) ⟨hv, ?_⟩
    rw [e]
    refine br_c (fun z => ?_) (fun z => ?_)
    · rw [ds_ct_y (decide_eq_true z)] at ih'
      exact nm_r (nI_1 _) (nm_r (nI_1 i) ih')
    · rw [ds_ct_n (by rw [decide_eq_true_iff]; exact z)] at ih'
      exact nm_r (nI_1 i) ih'
theorem yl_vis {post : Int32 → Prop} {w : Int32} (V : ds_V t p dx dy wd hg sh we hi so dp) (how : ∀ j, j < 120 → ow j = nI (ds_O t p dx dy wd hg sh lv (j % 12) (j / 12))) (k : post (nI (ds_ct (fun j => decide (ow j = w)) 120))) : ∀ m i n, i + m = 120 → m < n → wY_visible_14 post w T B t p dx dy we hi so lv cl wt wx wy wo wc n (nI (ds_ct (fun j => decide (ow j = w)) i)) (nI i) := by
  intro m
  induction m with
  | zero =>
    intro i n h_i hn
    obtain ⟨n, rfl⟩ : ∃ n', n = n' + 1 := ⟨n - 1, by omega⟩
    have e : i = 120 := by omega
    subst e
    exact br_t (by decide) k
  | succ m ih =>
    intro i n h_i hn
    obtain ⟨n, rfl⟩ : ∃ n', n = n' + 1 := ⟨n - 1, by omega⟩
    have ih' := ih (i + 1) n (by omega) (by omega)
    refine br_f (nI_ge (b := 120) (by omega) (by decide)) ⟨by decide, by decide, ?_⟩
    rw [ds_rm (by omega), ds_dv (by omega)]
    refine yl_owner V (by omega) (by omega) ?_
    rw [← how i (by omega)]
    refine br_c (fun z => ?_) (fun z => ?_)
    · rw [ds_ct_y (decide_eq_true z)] at ih'
      exact nm_r (nI_1 _) (nm_r (nI_1 i) ih')
    · rw [ds_ct_n (by rw [decide_eq_true_iff]; exact z)] at ih'
      exact nm_r (nI_1 i) ih'
/-! paint -/
def ds_pt (ow : Nat → Int32) (w : Int32) (cl : Nat → Int32) : Nat → Int32 := fun j => if ow j = w ∧ cl j = 0 then vp_nar .boolean 1 else cl j
theorem xl_pai {post : Int32 → SX → Prop} {w : Int32} (k : post (nI (ds_ct (fun j => decide (ow j = w ∧ cl j = 0)) 120)) (T, B, t, p, dx, dy, wd, hg, sh, lv, cx, cy, ow, ds_fl 120 (ds_pt ow w cl) cl, fx, fy, fo, fc)) : ∀ m i n, i + m = 120 → m < n → wX_paint_14 post w T B n (nI (ds_ct (fun j => decide (ow j = w ∧ cl j = 0)) i)) (nI i) t p dx dy wd hg sh lv cx cy ow (ds_fl i (ds_pt ow w cl) cl) fx fy fo fc := by
  intro m
  induction m with
  | zero =>
    intro i n h_i hn
    obtain ⟨n, rfl⟩ : ∃ n', n = n' + 1 := ⟨n - 1, by omega⟩
    have e : i = 120 := by omega
    subst e
    exact br_t (by decide) k
  | succ m ih =>
    intro i n h_i hn
    obtain ⟨n, rfl⟩ : ∃ n', n = n' + 1 := ⟨n - 1, by omega⟩
    have hv : vp_in (nI i) 120 := vp_in_nI (by omega) (by decide)
    have e := nI_clamp (n := i) (by omega)
    have ih' := ih (i + 1) n (by omega) (by omega)
    have no : ¬ (ow i = w ∧ cl i = 0) → wX_paint_14 post w T B n (nI (ds_ct (fun j => decide (ow j = w ∧ cl j = 0)) i)) (nI (i + 1)) t p dx dy wd hg sh lv cx cy ow (ds_fl i (ds_pt ow w cl) cl) fx fy fo fc := by
      intro z
      rw [ds_ct_n (by rw [decide_eq_true_iff]; exact z), ds_fl_k (if_neg z)] at ih'
      exact ih'
    refine br_f (nI_ge (b := 120) (by omega) (by decide)) ⟨hv, ?_⟩
    rw [e]
    refine br_c (fun z => ⟨hv, ?_⟩) (fun z => nm_r (nI_1 i) (no (fun q => z q.1)))
    rw [ds_fl_ge (Nat.lt_irrefl i)]
    refine br_c (fun y => ⟨hv, ?_⟩) (fun y => nm_r (nI_1 i) (no (fun q => y q.2)))
    rw [ds_ct_y (decide_eq_true ⟨z, y⟩)] at ih'
    exact nm_r (ds_fl_s (if_pos ⟨z, y⟩).symm) (nm_r (nI_1 _) (nm_r (nI_1 i) ih'))
theorem yl_pai {post : Int32 → SY → Prop} {w : Int32} (V : ds_V t p dx dy wd hg sh we hi so dp) (how : ∀ j, j < 120 → ow j = nI (ds_O t p dx dy wd hg sh lv (j % 12) (j / 12))) (k : post (nI (ds_ct (fun j => decide (ow j = w ∧ cl j = 0)) 120)) (T, B, t, p, dx, dy, we, hi, so, lv, ds_fl 120 (ds_pt ow w cl) cl, wt, wx, wy, wo, wc)) : ∀ m i n, i + m = 120 → m < n → wY_paint_14 post w T B n (nI (ds_ct (fun j => decide (ow j = w ∧ cl j = 0)) i)) (nI i) t p dx dy we hi so lv (ds_fl i (ds_pt ow w cl) cl) wt wx wy wo wc := by
  intro m
  induction m with
  | zero =>
    intro i n h_i hn
    obtain ⟨n, rfl⟩ : ∃ n', n = n' + 1 := ⟨n - 1, by omega⟩
    have e : i = 120 := by omega
    subst e
    exact br_t (by decide) k
  | succ m ih =>
    intro i n h_i hn
    obtain ⟨n, rfl⟩ : ∃ n', n = n' + 1 := ⟨n - 1, by omega⟩
    have hv : vp_in (nI i) 120 := vp_in_nI (by omega) (by decide)
    have e := nI_clamp (n := i) (by omega)
    have ih' := ih (i + 1) n (by omega) (by omega)
    have no : ¬ (ow i = w ∧ cl i = 0) → wY_paint_14 post w T B n (nI (ds_ct (fun j => decide (ow j = w ∧ cl j = 0)) i)) (nI (i + 1)) t p dx dy we hi so lv (ds_fl i (ds_pt ow w cl) cl) wt wx wy wo wc := by
      intro z
      rw [ds_ct_n (by rw [decide_eq_true_iff]; exact z), ds_fl_k (if_neg z)] at ih'
      exact ih'
    refine br_f (nI_ge (b := 120) (by omega) (by decide)) ⟨by decide, by decide, ?_⟩
    rw [ds_rm (by omega), ds_dv (by omega)]
    refine yl_owner V (by omega) (by omega) ?_
    rw [← how i (by omega)]
    refine br_c (fun z => ⟨hv, ?_⟩) (fun z => nm_r (nI_1 i) (no (fun q => z q.1)))
    rw [e, ds_fl_ge (Nat.lt_irrefl i)]
    refine br_c (fun y => ⟨hv, ?_⟩) (fun y => nm_r (nI_1 i) (no (fun q => y q.2)))
    rw [ds_ct_y (decide_eq_true ⟨z, y⟩)] at ih'
    exact nm_r (ds_fl_s (if_pos ⟨z, y⟩).symm) (nm_r (nI_1 _) (nm_r (nI_1 i) ih'))
end
theorem i_vc0 : wpX_init (fun u => wpY_init (fun v => i_Rel 0 u v)) := by
  refine nm_e ?_
  refine nm_e (nm_e (nm_e (nm_e ?_)))
  have t0 : upd (fun _ => 0) 0 (vp_nar .boolean 1) 0 = (1 : Int32) := by rw [pk_us]; exact ds_nar1
  have tn : ∀ j, j ≠ 0 → upd (fun _ => 0) 0 (vp_nar .boolean 1) j = (0 : Int32) := fun j hj => pk_un hj
  have H : ds_T (upd (fun _ => 0) 0 (vp_nar .boolean 1)) (fun _ => 0) (fun _ => 0) := ⟨rfl, by rw [t0]; decide, fun w w1 w6 h => absurd (tn w (by omega)) h⟩
  have z0 : (0 : Int32).toNatClampNeg = 0 := by decide
  have b0 : ds_B (fun _ => 0) := fun w _ => by show -15 ≤ (0 : Int32).toInt ∧ (0 : Int32).toInt ≤ 15; rw [ds_i0]; omega
  have hp : ds_P (fun _ => 0) := fun w _ => by
    have e : ds_up (fun _ => 0) w = 0 := z0
    rw [e]; exact ⟨by omega, rfl⟩
  refine ds_mk (dp := fun _ => 0) ⟨H, hp, b0, b0, fun c _ => ?_, fun c h1 _ => ⟨pk_un (by omega), pk_un (by omega), pk_un (by omega)⟩, fun j => ?_⟩ ⟨fun c hc h => ?_, fun j hj => ?_⟩
  · show (0 ≤ (0 : Int32).toInt ∧ (0 : Int32).toInt ≤ 12) ∧ (0 ≤ (0 : Int32).toInt ∧ (0 : Int32).toInt ≤ 12)
    rw [ds_i0]; omega
  · by_cases e : j = 0
    · subst e; exact Or.inr t0
    · exact Or.inl (tn j e)
  · have e : c = 0 := Classical.byContradiction fun e => h (tn c e)
    subst e
    exact ⟨ds_cs_0.symm, ds_cs_0.symm⟩
  · have e : ds_nx (upd (fun _ => 0) 0 (vp_nar .boolean 1)) (fun _ => 0) (fun _ => 0) (fun _ => 0) (fun _ => 0) (fun _ => 0) (fun _ => 0) (fun _ => 0) (j % 12) (j / 12) 0 = 0 := by
      cases ds_nx_in (t := upd (fun _ => 0) 0 (vp_nar .boolean 1)) (p := fun _ => 0) (dx := fun _ => 0) (dy := fun _ => 0) (wd := fun _ => 0) (hg := fun _ => 0) (sh := fun _ => 0) (lv := fun _ => 0) (x := j % 12) (y := j / 12) (a := 0) with
      | inl e => exact e
      | inr e => exact absurd (tn _ (by omega)) e.2.2.1
    show (0 : Int32) = nI (ds_ow _ 5 0)
    rw [ds_ow_y e]; rfl
theorem i_vc_owner {k : Nat} {u : SX} {v : SY} (I : i_Rel k u v) (hk : k + 5 ≤ 2560) (v1 : Int32) (v2 : Int32) : wpX_owner (fun r => wpY_owner (fun r' => r' = r ∧ i_Rel (k + 5) u v) v v1 v2) u v1 v2 := by
  obtain ⟨T, B, t, p, dx, dy, wd, hg, sh, lv, cx, cy, ow, cl, fx, fy, fo, fc, we, hi, so, wt, wx, wy, wo, wc, dp, rfl, rfl, V, C⟩ := I
  unfold wpX_owner
  refine xl_on (fun z => br_f (by decide) ?_) (fun z => br_t rfl ?_)
  · obtain ⟨a, b, ha, hb, rfl, rfl⟩ := ds_k_ix z.1 z.2.1 z.2.2.1 z.2.2.2
    refine xl_pix ⟨vp_in_nI (by omega) (by decide), ?_⟩
    rw [nI_clamp (n := 12 * b + a) (by omega), C.2 _ (by omega), show (12 * b + a) % 12 = a by omega, show (12 * b + a) / 12 = b by omega]
    exact yl_owner V ha hb ⟨rfl, ds_mk V C⟩
  · exact yl_owner_n z ⟨rfl, ds_mk V C⟩
theorem yl_dirty_n {T B : Int32} {t p dx dy we hi so lv cl wt wx wy wo wc : Nat → Int32} {post : Int32 → Prop} {A D : Int32} (h : ¬ (0 ≤ A ∧ A < 12 ∧ 0 ≤ D ∧ D < 10)) (k : post (-1)) : wpY_dirty post (T, B, t, p, dx, dy, we, hi, so, lv, cl, wt, wx, wy, wo, wc) A D := by
  refine br_c (fun _ => k) (fun z1 => br_c (fun _ => k) (fun z2 => br_c (fun _ => k) (fun z3 => br_c (fun z4 => ?_) (fun _ => k))))
  obtain ⟨a, ha, rfl⟩ := nI_of z1
  obtain ⟨b, hb, rfl⟩ := nI_of z3
  have a1 := (not_congr (nI_ltI (a := 11) (b := a) (by decide) ha)).mp z2
  have b1 := (nI_leI (a := b) (b := 9) hb (by decide)).mp z4
  exact absurd ⟨nI_pos' ha, nI_lt (b := 12) (by omega) (by decide), nI_pos' hb, nI_lt (b := 10) (by omega) (by decide)⟩ h
theorem i_vc_dirty {k : Nat} {u : SX} {v : SY} (I : i_Rel k u v) (hk : k + 5 ≤ 2560) (v1 : Int32) (v2 : Int32) : wpX_dirty (fun r => wpY_dirty (fun r' => r' = r ∧ i_Rel (k + 5) u v) v v1 v2) u v1 v2 := by
  obtain ⟨T, B, t, p, dx, dy, wd, hg, sh, lv, cx, cy, ow, cl, fx, fy, fo, fc, we, hi, so, wt, wx, wy, wo, wc, dp, rfl, rfl, V, C⟩ := I
  unfold wpX_dirty
  refine xl_on (fun z => br_f (by decide) ?_) (fun z => br_t rfl ?_)
  · obtain ⟨a, b, ha, hb, rfl, rfl⟩ := ds_k_ix z.1 z.2.1 z.2.2.1 z.2.2.2
    have ei : (12 : Int32) * nI b + nI a = nI (12 * b + a) := by
      rw [show (12 : Int32) = nI 12 from rfl, pk_mul, nI_add]
    have hq : vp_in (nI (12 * b + a)) 120 := vp_in_nI (by omega) (by decide)
    have e := nI_clamp (n := 12 * b + a) (by omega)
    have yl : ∀ post : Int32 → Prop, (cl (12 * b + a) = 0 → post 1) → (¬ cl (12 * b + a) = 0 → post 0) → wpY_dirty post (T, B, t, p, dx, dy, we, hi, so, lv, cl, wt, wx, wy, wo, wc) (nI a) (nI b) := by
      intro post k1 k0
      refine br_f (nI_pos (by omega)) (br_f (nI_nlt (a := 11) (by omega) (by decide)) (br_f (nI_pos (by omega)) (br_t (nI_le (b := 9) (by omega) (by decide)) ?_)))
      rw [ei, e]
      exact ⟨hq, br_c k1 k0⟩
    refine xl_pix ⟨hq, ?_⟩
    rw [e]
    exact br_c (fun c => yl _ (fun _ => ⟨rfl, ds_mk V C⟩) (fun d => absurd c d)) (fun c => yl _ (fun d => absurd d c) (fun _ => ⟨rfl, ds_mk V C⟩))
  · exact yl_dirty_n z ⟨rfl, ds_mk V C⟩
theorem i_vc_visible {k : Nat} {u : SX} {v : SY} (I : i_Rel k u v) (hk : k + 5 ≤ 2560) (v1 : Int32) : wpX_visible (fun r => wpY_visible (fun r' => r' = r ∧ i_Rel (k + 5) u v) v v1) u v1 := by
  obtain ⟨T, B, t, p, dx, dy, wd, hg, sh, lv, cx, cy, ow, cl, fx, fy, fo, fc, we, hi, so, wt, wx, wy, wo, wc, dp, rfl, rfl, V, C⟩ := I
  unfold wpX_visible
  by_cases h : ∃ a : Nat, a < 6 ∧ v1 = nI a ∧ t a ≠ 0
  · obtain ⟨a, ha, rfl, ht⟩ := h
    refine xl_there_y ha ht (br_f (by decide) ⟨121, ?_⟩)
    refine xl_vis (w := nI a) ?_ 120 0 121 (by omega) (by omega)
    unfold wpY_visible
    refine yl_miss_n ha ht (br_t rfl ⟨121, ?_⟩)
    exact yl_vis (w := nI a) V C.2 ⟨rfl, ds_mk V C⟩ 120 0 121 (by omega) (by omega)
  · refine xl_there_n h (br_t rfl ?_)
    unfold wpY_visible
    exact yl_miss_y h (br_f (by decide) ⟨rfl, ds_mk V C⟩)
theorem i_vc_paint {k : Nat} {u : SX} {v : SY} (I : i_Rel k u v) (hk : k + 5 ≤ 2560) (v1 : Int32) : wpX_paint (fun r u' => wpY_paint (fun r' v' => r' = r ∧ i_Rel (k + 5) u' v') v v1) u v1 := by
  obtain ⟨T, B, t, p, dx, dy, wd, hg, sh, lv, cx, cy, ow, cl, fx, fy, fo, fc, we, hi, so, wt, wx, wy, wo, wc, dp, rfl, rfl, V, C⟩ := I
  unfold wpX_paint
  by_cases h : ∃ a : Nat, a < 6 ∧ v1 = nI a ∧ t a ≠ 0
  · obtain ⟨a, ha, rfl, ht⟩ := h
    refine xl_there_y ha ht (br_f (by decide) ⟨121, ?_⟩)
    have hX := fun post k => xl_pai (post := post) (T := T) (B := B) (t := t) (p := p) (dx := dx) (dy := dy) (wd := wd) (hg := hg) (sh := sh) (lv := lv) (cx := cx) (cy := cy) (ow := ow) (cl := cl) (fx := fx) (fy := fy) (fo := fo) (fc := fc) (w := nI a) k 120 0 121 (by omega) (by omega)
    rw [ds_fl_0] at hX
    refine hX _ ?_
    unfold wpY_paint
    refine yl_miss_n ha ht (br_t rfl ⟨121, ?_⟩)
    have hY := fun post k => yl_pai (post := post) (T := T) (B := B) (cl := cl) (wt := wt) (wx := wx) (wy := wy) (wo := wo) (wc := wc) (w := nI a) V C.2 k 120 0 121 (by omega) (by omega)
    rw [ds_fl_0] at hY
    exact hY _ ⟨rfl, ds_mk V C⟩
  · refine xl_there_n h (br_t rfl ?_)
    unfold wpY_paint
    exact yl_miss_y h (br_f (by decide) ⟨rfl, ds_mk V C⟩)
