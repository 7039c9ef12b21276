/-! move, size, raise, show -/
theorem ds_B_u {d : Nat → Int32} {a : Nat} {z : Int32} (h : ds_B d) (h1 : -15 ≤ z.toInt) (h2 : z.toInt ≤ 15) : ds_B (upd d a z) := by
  intro w hw
  by_cases e : w = a
  · subst e; rw [pk_us]; exact ⟨h1, h2⟩
  · rw [pk_un e]; exact h w hw
theorem ds_u2 {f g : Nat → Int32} {a c : Nat} {z : Int32} (h : f c = g c) : upd f a z c = upd g a z c := by
  by_cases e : c = a
  · subst e; rw [pk_us, pk_us]
  · rw [pk_un e, pk_un e]; exact h
theorem ds_u12 {f : Nat → Int32} {a c : Nat} {z : Int32} (h : 0 ≤ (f c).toInt ∧ (f c).toInt ≤ 12) (hz : 0 ≤ z.toInt ∧ z.toInt ≤ 12) : 0 ≤ (upd f a z c).toInt ∧ (upd f a z c).toInt ≤ 12 := by
  by_cases e : c = a
  · subst e; rw [pk_us]; exact hz
  · rw [pk_un e]; exact h
theorem xl_off {post : Int32 → Prop} {z : Int32} (k1 : ¬ z < -15 ∧ ¬ 15 < z → post 1) (k0 : ¬ (¬ z < -15 ∧ ¬ 15 < z) → post 0) : wpX_isOffset post z :=
  br_c (fun h => k0 (fun q => q.1 h)) (fun h1 => br_c (fun h => k0 (fun q => q.2 h)) (fun h2 => k1 ⟨h1, h2⟩))
theorem ds_o15 {z : Int32} (h : ¬ z < -15 ∧ ¬ 15 < z) : -15 ≤ z.toInt ∧ z.toInt ≤ 15 := by
  rw [Int32.lt_iff_toInt_lt, Int32.lt_iff_toInt_lt, show (-15 : Int32).toInt = -15 from by decide, ds_15] at h
  omega
theorem yl_len {post : Int32 → Prop} {s : Int32} (k : post (ds_ln s)) : wpY_length post s := by
  unfold ds_ln at k
  by_cases z : s = 0
  · rw [if_pos z] at k; exact br_t z k
  · rw [if_neg z] at k
    by_cases y : 12 < s
    · rw [if_pos y] at k; exact br_f z (br_f (Int32.not_le.mpr y) k)
    · rw [if_neg y] at k; exact br_f z (br_t (Int32.not_lt.mp y) k)
section
variable {T B : Int32} {t p dx dy wd hg sh lv cx cy ow cl fx fy fo fc : Nat → Int32}
theorem xl_sides {post : SX → Prop} {a : Nat} {s : Int32} (ha : a < 6) (k : post (T, B, t, p, dx, dy, upd wd a (ds_ln (s &&& 15)), upd hg a (ds_ln ((s >>> ((4 : Int32) &&& 31)) &&& 15)), sh, lv, cx, cy, ow, cl, fx, fy, fo, fc)) : wpX_setSides post (T, B, t, p, dx, dy, wd, hg, sh, lv, cx, cy, ow, cl, fx, fy, fo, fc) (nI a) s := by
  have hv : vp_in (nI a) 6 := vp_in_nI ha (by decide)
  have e := nI_clamp (n := a) (by omega)
  unfold wpX_setSides
  refine xl_side ⟨hv, nm_r (e' := upd wd a (ds_ln (s &&& 15))) (by rw [e]) ?_⟩
  exact xl_side ⟨hv, nm_r (e' := upd hg a (ds_ln ((s >>> ((4 : Int32) &&& 31)) &&& 15))) (by rw [e]) k⟩
theorem xl_ptop {post : SX → Prop} {a : Nat} (ha : a < 6) (k : post (T + 1, B, t, p, dx, dy, wd, hg, sh, upd lv a (T + 1), cx, cy, ow, cl, fx, fy, fo, fc)) : wpX_putOnTop post (T, B, t, p, dx, dy, wd, hg, sh, lv, cx, cy, ow, cl, fx, fy, fo, fc) (nI a) := by
  have hv : vp_in (nI a) 6 := vp_in_nI ha (by decide)
  have e := nI_clamp (n := a) (by omega)
  exact nm_e ⟨hv, nm_r (e' := upd lv a (T + 1)) (by rw [e]) k⟩
theorem xl_pbot {post : SX → Prop} {a : Nat} (ha : a < 6) (k : post (T, B - 1, t, p, dx, dy, wd, hg, sh, upd lv a (B - 1), cx, cy, ow, cl, fx, fy, fo, fc)) : wpX_putAtBottom post (T, B, t, p, dx, dy, wd, hg, sh, lv, cx, cy, ow, cl, fx, fy, fo, fc) (nI a) := by
  have hv : vp_in (nI a) 6 := vp_in_nI ha (by decide)
  have e := nI_clamp (n := a) (by omega)
  exact nm_e ⟨hv, nm_r (e' := upd lv a (B - 1)) (by rw [e]) k⟩
end
section
variable {T B : Int32} {t p dx dy we hi so lv cl wt wx wy wo wc : Nat → Int32}
theorem yl_ssize {post : SY → Prop} {a : Nat} {s : Int32} (ha : a < 6) (k : post (T, B, t, p, dx, dy, upd we a (ds_ln (s &&& 15)), upd hi a (ds_ln ((s >>> ((4 : Int32) &&& 31)) &&& 15)), so, lv, cl, wt, wx, wy, wo, wc)) : wpY_setSize post (T, B, t, p, dx, dy, we, hi, so, lv, cl, wt, wx, wy, wo, wc) (nI a) s := by
  have hv : vp_in (nI a) 6 := vp_in_nI ha (by decide)
  have e := nI_clamp (n := a) (by omega)
  unfold wpY_setSize
  refine yl_len ⟨hv, nm_r (e' := upd we a (ds_ln (s &&& 15))) (by rw [e]) ?_⟩
  exact yl_len ⟨hv, nm_r (e' := upd hi a (ds_ln ((s >>> ((4 : Int32) &&& 31)) &&& 15))) (by rw [e]) k⟩
theorem yl_ref {post : Int32 → Prop} {w : Int32} (h : ¬ ∃ a : Nat, a ≠ 0 ∧ a < 6 ∧ w = nI a ∧ t a ≠ 0) (k1 : post 1) (k0 : w = 0 → post 0) : wpY_missing post (T, B, t, p, dx, dy, we, hi, so, lv, cl, wt, wx, wy, wo, wc) w := by
  by_cases m : ∃ a : Nat, a < 6 ∧ w = nI a ∧ t a ≠ 0
  · obtain ⟨a, ha, rfl, ht⟩ := m
    have e : a = 0 := Classical.byContradiction fun e => h ⟨a, e, ha, rfl, ht⟩
    subst e
    exact yl_miss_n ha ht (k0 rfl)
  · exact yl_miss_y m k1
end
theorem i_vc_move {k : Nat} {u : SX} {v : SY} (I : i_Rel k u v) (hk : k + 5 ≤ 2560) (v1 : Int32) (v2 : Int32) (v3 : Int32) : wpX_move (fun r u' => wpY_move (fun r' v' => r' = r ∧ i_Rel (k + 5) u' v') v v1 v2 v3) u v1 v2 v3 := by
  obtain ⟨T, B, t, p, dx, dy, wd, hg, sh, lv, cx, cy, ow, cl, fx, fy, fo, fc, we, hi, so, wt, wx, wy, wo, wc, dp, rfl, rfl, V, C⟩ := I
  unfold wpX_move
  by_cases h : ∃ a : Nat, a ≠ 0 ∧ a < 6 ∧ v1 = nI a ∧ t a ≠ 0
  · obtain ⟨a, a0, ha, rfl, ht⟩ := h
    have hv : vp_in (nI a) 6 := vp_in_nI ha (by decide)
    have e := nI_clamp (n := a) (by omega)
    refine xl_chg_y a0 ha ht (br_f (by decide) ?_)
    refine xl_off (fun z => br_f (by decide) ?_) (fun z => br_t rfl ?_)
    · refine xl_off (fun z' => br_f (by decide) ?_) (fun z' => br_t rfl ?_)
      · refine ⟨hv, nm_r (e' := upd dx a v2) (by rw [e]) ⟨hv, nm_r (e' := upd dy a v3) (by rw [e]) ?_⟩⟩
        have V' : ds_V t p (upd dx a v2) (upd dy a v3) wd hg sh we hi so dp := ⟨V.1, V.2.1, ds_B_u V.2.2.1 (ds_o15 z).1 (ds_o15 z).2, ds_B_u V.2.2.2.1 (ds_o15 z').1 (ds_o15 z').2, V.2.2.2.2⟩
        refine xl_settle V.1 C V.1 V.2.1 (fun cx' cy' ow' fx' fy' fo' fc' C' => ?_)
        unfold wpY_move
        refine yl_miss_n ha ht (br_t rfl (br_f (nI_ne0 (by omega) (by omega)) ?_))
        refine br_f z.1 (br_f z.2 (br_f z'.1 (br_t (Int32.not_lt.mp z'.2) ?_)))
        refine yl_rem V (fun wt' wx' wy' wo' wc' Y => ?_)
        refine ⟨hv, nm_r (e' := upd dx a v2) (by rw [e]) ⟨hv, nm_r (e' := upd dy a v3) (by rw [e]) ?_⟩⟩
        refine yl_settle V' V.1 V.2.1 Y ?_
        exact ⟨rfl, ds_mk V' C'⟩
      · unfold wpY_move
        refine yl_miss_n ha ht (br_t rfl (br_f (nI_ne0 (by omega) (by omega)) ?_))
        exact br_c (fun _ => ⟨rfl, ds_mk V C⟩) (fun q1 => br_c (fun _ => ⟨rfl, ds_mk V C⟩) (fun q2 => br_c (fun _ => ⟨rfl, ds_mk V C⟩) (fun q3 => br_c (fun q4 => absurd ⟨q3, Int32.not_lt.mpr q4⟩ z') (fun _ => ⟨rfl, ds_mk V C⟩))))
    · unfold wpY_move
      refine yl_miss_n ha ht (br_t rfl (br_f (nI_ne0 (by omega) (by omega)) ?_))
      exact br_c (fun _ => ⟨rfl, ds_mk V C⟩) (fun q1 => br_c (fun _ => ⟨rfl, ds_mk V C⟩) (fun q2 => absurd ⟨q1, q2⟩ z))
  · refine xl_chg_n h (br_t rfl ?_)
    unfold wpY_move
    exact yl_ref h (br_f (by decide) ⟨rfl, ds_mk V C⟩) (fun w0 => br_t rfl (br_t w0 ⟨rfl, ds_mk V C⟩))
theorem i_vc_size {k : Nat} {u : SX} {v : SY} (I : i_Rel k u v) (hk : k + 5 ≤ 2560) (v1 : Int32) (v2 : Int32) : wpX_size (fun r u' => wpY_size (fun r' v' => r' = r ∧ i_Rel (k + 5) u' v') v v1 v2) u v1 v2 := by
  obtain ⟨T, B, t, p, dx, dy, wd, hg, sh, lv, cx, cy, ow, cl, fx, fy, fo, fc, we, hi, so, wt, wx, wy, wo, wc, dp, rfl, rfl, V, C⟩ := I
  unfold wpX_size
  by_cases h : ∃ a : Nat, a ≠ 0 ∧ a < 6 ∧ v1 = nI a ∧ t a ≠ 0
  · obtain ⟨a, a0, ha, rfl, ht⟩ := h
    refine xl_chg_y a0 ha ht (br_f (by decide) ?_)
    refine xl_sides ha ?_
    have V' : ds_V t p dx dy (upd wd a (ds_ln (v2 &&& 15))) (upd hg a (ds_ln ((v2 >>> ((4 : Int32) &&& 31)) &&& 15))) sh (upd we a (ds_ln (v2 &&& 15))) (upd hi a (ds_ln ((v2 >>> ((4 : Int32) &&& 31)) &&& 15))) so dp :=
      ⟨V.1, V.2.1, V.2.2.1, V.2.2.2.1, fun c hc => ⟨ds_u12 (V.2.2.2.2.1 c hc).1 (ds_ln_b _), ds_u12 (V.2.2.2.2.1 c hc).2 (ds_ln_b _)⟩, fun c h1 hc => ⟨ds_u2 (V.2.2.2.2.2.1 c h1 hc).1, ds_u2 (V.2.2.2.2.2.1 c h1 hc).2.1, (V.2.2.2.2.2.1 c h1 hc).2.2⟩, V.2.2.2.2.2.2⟩
    refine xl_settle V.1 C V.1 V.2.1 (fun cx' cy' ow' fx' fy' fo' fc' C' => ?_)
    unfold wpY_size
    refine yl_miss_n ha ht (br_t rfl (br_f (nI_ne0 (by omega) (by omega)) ?_))
    refine yl_rem V (fun wt' wx' wy' wo' wc' Y => ?_)
    refine yl_ssize ha ?_
    refine yl_settle V' V.1 V.2.1 Y ?_
    exact ⟨rfl, ds_mk V' C'⟩
  · refine xl_chg_n h (br_t rfl ?_)
    unfold wpY_size
    exact yl_ref h (br_f (by decide) ⟨rfl, ds_mk V C⟩) (fun w0 => br_t rfl (br_t w0 ⟨rfl, ds_mk V C⟩))
theorem i_vc_raise {k : Nat} {u : SX} {v : SY} (I : i_Rel k u v) (hk : k + 5 ≤ 2560) (v1 : Int32) (v2 : Int32) : wpX_raise (fun r u' => wpY_raise (fun r' v' => r' = r ∧ i_Rel (k + 5) u' v') v v1 (lw_bz v2)) u v1 (lw_bz v2) := by
  obtain ⟨T, B, t, p, dx, dy, wd, hg, sh, lv, cx, cy, ow, cl, fx, fy, fo, fc, we, hi, so, wt, wx, wy, wo, wc, dp, rfl, rfl, V, C⟩ := I
  unfold wpX_raise
  by_cases h : ∃ a : Nat, a ≠ 0 ∧ a < 6 ∧ v1 = nI a ∧ t a ≠ 0
  · obtain ⟨a, a0, ha, rfl, ht⟩ := h
    have hv : vp_in (nI a) 6 := vp_in_nI ha (by decide)
    have e := nI_clamp (n := a) (by omega)
    refine xl_chg_y a0 ha ht (br_f (by decide) ?_)
    refine br_c (fun z => xl_pbot ha ?_) (fun z => xl_ptop ha ?_)
    · dsimp only
      unfold wX_raise_27
      refine xl_settle V.1 C V.1 V.2.1 (fun cx' cy' ow' fx' fy' fo' fc' C' => ?_)
      unfold wpY_raise
      refine yl_miss_n ha ht (br_t rfl (br_f (nI_ne0 (by omega) (by omega)) ?_))
      refine yl_rem V (fun wt' wx' wy' wo' wc' Y => ?_)
      refine br_t z (nm_e ⟨hv, nm_r (e' := upd lv a (B - 1)) (by rw [e]) ?_⟩)
      unfold wY_raise_65
      refine yl_settle V V.1 V.2.1 Y ?_
      exact ⟨rfl, ds_mk V C'⟩
    · dsimp only
      unfold wX_raise_27
      refine xl_settle V.1 C V.1 V.2.1 (fun cx' cy' ow' fx' fy' fo' fc' C' => ?_)
      unfold wpY_raise
      refine yl_miss_n ha ht (br_t rfl (br_f (nI_ne0 (by omega) (by omega)) ?_))
      refine yl_rem V (fun wt' wx' wy' wo' wc' Y => ?_)
      refine br_f z (nm_e ⟨hv, nm_r (e' := upd lv a (T + 1)) (by rw [e]) ?_⟩)
      unfold wY_raise_65
      refine yl_settle V V.1 V.2.1 Y ?_
      exact ⟨rfl, ds_mk V C'⟩
  · refine xl_chg_n h (br_t rfl ?_)
    unfold wpY_raise
    exact yl_ref h (br_f (by decide) ⟨rfl, ds_mk V C⟩) (fun w0 => br_t rfl (br_t w0 ⟨rfl, ds_mk V C⟩))
theorem i_vc_show {k : Nat} {u : SX} {v : SY} (I : i_Rel k u v) (hk : k + 5 ≤ 2560) (v1 : Int32) (v2 : Int32) : wpX_show (fun r u' => wpY_show (fun r' v' => r' = r ∧ i_Rel (k + 5) u' v') v v1 (lw_bz v2)) u v1 (lw_bz v2) := by
  obtain ⟨T, B, t, p, dx, dy, wd, hg, sh, lv, cx, cy, ow, cl, fx, fy, fo, fc, we, hi, so, wt, wx, wy, wo, wc, dp, rfl, rfl, V, C⟩ := I
  unfold wpX_show
  by_cases h : ∃ a : Nat, a ≠ 0 ∧ a < 6 ∧ v1 = nI a ∧ t a ≠ 0
  · obtain ⟨a, a0, ha, rfl, ht⟩ := h
    have hv : vp_in (nI a) 6 := vp_in_nI ha (by decide)
    have e := nI_clamp (n := a) (by omega)
    refine xl_chg_y a0 ha ht (br_f (by decide) ?_)
    refine ⟨hv, nm_r (e' := upd sh a (vp_nar .boolean (lw_bz v2))) (by rw [e]) ?_⟩
    have V' : ds_V t p dx dy wd hg (upd sh a (vp_nar .boolean (lw_bz v2))) we hi (upd so a (vp_nar .boolean (lw_bz v2))) dp :=
      ⟨V.1, V.2.1, V.2.2.1, V.2.2.2.1, V.2.2.2.2.1, fun c h1 hc => ⟨(V.2.2.2.2.2.1 c h1 hc).1, (V.2.2.2.2.2.1 c h1 hc).2.1, ds_u2 (V.2.2.2.2.2.1 c h1 hc).2.2⟩, V.2.2.2.2.2.2⟩
    refine xl_settle V.1 C V.1 V.2.1 (fun cx' cy' ow' fx' fy' fo' fc' C' => ?_)
    unfold wpY_show
    refine yl_miss_n ha ht (br_t rfl (br_f (nI_ne0 (by omega) (by omega)) ?_))
    refine yl_rem V (fun wt' wx' wy' wo' wc' Y => ?_)
    refine ⟨hv, nm_r (e' := upd so a (vp_nar .boolean (lw_bz v2))) (by rw [e]) ?_⟩
    refine yl_settle V' V.1 V.2.1 Y ?_
    exact ⟨rfl, ds_mk V' C'⟩
  · refine xl_chg_n h (br_t rfl ?_)
    unfold wpY_show
    exact yl_ref h (br_f (by decide) ⟨rfl, ds_mk V C⟩) (fun w0 => br_t rfl (br_t w0 ⟨rfl, ds_mk V C⟩))
