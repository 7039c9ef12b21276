/-! make -/
theorem ds_free (t : Nat → Int32) : ∀ m c, c + m = 6 → 1 ≤ c → (∀ d, 1 ≤ d → d < c → t d ≠ 0) → (∀ d, 1 ≤ d → d < 6 → t d ≠ 0) ∨ ∃ w, 1 ≤ w ∧ w < 6 ∧ t w = 0 ∧ ∀ d, 1 ≤ d → d < w → t d ≠ 0 := by
  intro m
  induction m with
  | zero => intro c hc h1 h; exact Or.inl (fun d d1 d6 => h d d1 (by omega))
  | succ m ih =>
    intro c hc h1 h
    by_cases z : t c = 0
    · exact Or.inr ⟨c, h1, by omega, z, h⟩
    · refine ih (c + 1) (by omega) (by omega) (fun d d1 dc => ?_)
      by_cases e : d = c
      · subst e; exact z
      · exact h d d1 (by omega)
theorem ds_T_mk {t p : Nat → Int32} {dp : Nat → Nat} {w a : Nat} {z : Int32} (H : ds_T t p dp) (hp : ds_P p) (w1 : 1 ≤ w) (w6 : w < 6) (tw : t w = 0) (ha : a < 6) (ta : t a ≠ 0) (hz : z ≠ 0) : ds_T (upd t w z) (upd p w (nI a)) (fun j => if j = w then dp a + 1 else dp j) := by
  have aw : a ≠ w := by intro e; subst e; exact ta tw
  have uw : ds_up (upd p w (nI a)) w = a := by unfold ds_up; rw [pk_us]; exact nI_clamp (by omega)
  refine ⟨?_, by rw [pk_un (by omega)]; exact H.2.1, fun u u1 u6 hu => ?_⟩
  · show (if 0 = w then dp a + 1 else dp 0) = 0
    rw [if_neg (by omega)]; exact H.1
  · show (if u = w then dp a + 1 else dp u) = (if ds_up (upd p w (nI a)) u = w then dp a + 1 else dp (ds_up (upd p w (nI a)) u)) + 1 ∧ (if u = w then dp a + 1 else dp u) ≤ 5 ∧ upd t w z (ds_up (upd p w (nI a)) u) ≠ 0
    by_cases e : u = w
    · subst e
      rw [uw, if_pos rfl, if_neg aw, pk_un aw]
      have := ds_dep H hp w1 w6 tw ha ta
      exact ⟨rfl, by omega, ta⟩
    · have eu : ds_up (upd p w (nI a)) u = ds_up p u := by unfold ds_up; rw [pk_un e]
      rw [pk_un e] at hu
      have q := H.2.2 u u1 u6 hu
      have nw : ds_up p u ≠ w := by intro y; rw [y] at q; exact q.2.2 tw
      rw [eu, if_neg e, if_neg nw, pk_un nw]
      exact q
theorem ds_P_mk {p : Nat → Int32} {w a : Nat} (hp : ds_P p) (ha : a < 6) : ds_P (upd p w (nI a)) := by
  intro u hu
  by_cases e : u = w
  · subst e
    have uw : ds_up (upd p u (nI a)) u = a := by unfold ds_up; rw [pk_us]; exact nI_clamp (by omega)
    rw [uw, pk_us]; exact ⟨ha, rfl⟩
  · have eu : ds_up (upd p w (nI a)) u = ds_up p u := by unfold ds_up; rw [pk_un e]
    rw [eu, pk_un e]; exact hp u hu
section
variable {T B : Int32} {t p dx dy wd hg sh lv cx cy ow cl fx fy fo fc : Nat → Int32}
theorem xl_lf {post : Int32 → Prop} {w : Nat} (w6 : w < 6) (tw : t w = 0) (hl : ∀ d, 1 ≤ d → d < w → t d ≠ 0) (k : post (nI w)) : ∀ m c n, c + m = w → 1 ≤ c → m < n → wX_leastFreeWindow_2 post T B t p dx dy wd hg sh lv cx cy ow cl fx fy fo fc n (nI c) := by
  intro m
  induction m with
  | zero =>
    intro c n hc h1 hn
    obtain ⟨n, rfl⟩ : ∃ n', n = n' + 1 := ⟨n - 1, by omega⟩
    have e : c = w := by omega
    subst e
    refine br_f (nI_ge (b := 6) w6 (by decide)) ⟨vp_in_nI w6 (by decide), ?_⟩
    rw [nI_clamp (n := c) (by omega)]
    exact br_t tw k
  | succ m ih =>
    intro c n hc h1 hn
    obtain ⟨n, rfl⟩ : ∃ n', n = n' + 1 := ⟨n - 1, by omega⟩
    refine br_f (nI_ge (b := 6) (by omega) (by decide)) ⟨vp_in_nI (by omega) (by decide), ?_⟩
    rw [nI_clamp (n := c) (by omega)]
    exact br_f (hl c h1 (by omega)) (nm_r (nI_1 c) (ih (c + 1) n (by omega) (by omega) (by omega)))
theorem xl_lfn {post : Int32 → Prop} (hl : ∀ d, 1 ≤ d → d < 6 → t d ≠ 0) (k : post (-1)) : ∀ m c n, c + m = 6 → 1 ≤ c → m < n → wX_leastFreeWindow_2 post T B t p dx dy wd hg sh lv cx cy ow cl fx fy fo fc n (nI c) := by
  intro m
  induction m with
  | zero =>
    intro c n hc h1 hn
    obtain ⟨n, rfl⟩ : ∃ n', n = n' + 1 := ⟨n - 1, by omega⟩
    have e : c = 6 := by omega
    subst e
    exact br_t (by decide) k
  | succ m ih =>
    intro c n hc h1 hn
    obtain ⟨n, rfl⟩ : ∃ n', n = n' + 1 := ⟨n - 1, by omega⟩
    refine br_f (nI_ge (b := 6) (by omega) (by decide)) ⟨vp_in_nI (by omega) (by decide), ?_⟩
    rw [nI_clamp (n := c) (by omega)]
    exact br_f (hl c h1 (by omega)) (nm_r (nI_1 c) (ih (c + 1) n (by omega) (by omega) (by omega)))
theorem xl_least_y {post : Int32 → Prop} {w : Nat} (w1 : 1 ≤ w) (w6 : w < 6) (tw : t w = 0) (hl : ∀ d, 1 ≤ d → d < w → t d ≠ 0) (k : post (nI w)) : wpX_leastFreeWindow post (T, B, t, p, dx, dy, wd, hg, sh, lv, cx, cy, ow, cl, fx, fy, fo, fc) :=
  ⟨w, xl_lf w6 tw hl k (w - 1) 1 w (by omega) (by omega) (by omega)⟩
theorem xl_least_n {post : Int32 → Prop} (hl : ∀ d, 1 ≤ d → d < 6 → t d ≠ 0) (k : post (-1)) : wpX_leastFreeWindow post (T, B, t, p, dx, dy, wd, hg, sh, lv, cx, cy, ow, cl, fx, fy, fo, fc) :=
  ⟨6, xl_lfn hl k 5 1 6 (by omega) (by omega) (by omega)⟩
end
section
variable {T B : Int32} {t p dx dy we hi so lv cl wt wx wy wo wc : Nat → Int32}
theorem yl_mk_y {post : Int32 → SY → Prop} {a s : Int32} {w : Nat} (w6 : w < 6) (hl : ∀ d, 1 ≤ d → d < w → t d ≠ 0) (k : ∀ n, wY_make_12 post a s T B t p dx dy we hi so lv cl wt wx wy wo wc (n + 1) (nI w)) : ∀ m c n, c + m = w → 1 ≤ c → m < n → wY_make_12 post a s T B t p dx dy we hi so lv cl wt wx wy wo wc n (nI c) := by
  intro m
  induction m with
  | zero =>
    intro c n hc h1 hn
    obtain ⟨n, rfl⟩ : ∃ n', n = n' + 1 := ⟨n - 1, by omega⟩
    have e : c = w := by omega
    subst e
    exact k n
  | succ m ih =>
    intro c n hc h1 hn
    obtain ⟨n, rfl⟩ : ∃ n', n = n' + 1 := ⟨n - 1, by omega⟩
    refine br_f (nI_ge (b := 6) (by omega) (by decide)) ⟨vp_in_nI (by omega) (by decide), ?_⟩
    refine br_f ?_ (nm_r (nI_1 c) (ih (c + 1) n (by omega) (by omega) (by omega)))
    rw [nI_clamp (n := c) (by omega)]
    exact hl c h1 (by omega)
theorem yl_mk_n {post : Int32 → SY → Prop} {a s : Int32} (hl : ∀ d, 1 ≤ d → d < 6 → t d ≠ 0) (k : post (-1) (T, B, t, p, dx, dy, we, hi, so, lv, cl, wt, wx, wy, wo, wc)) : ∀ m c n, c + m = 6 → 1 ≤ c → m < n → wY_make_12 post a s T B t p dx dy we hi so lv cl wt wx wy wo wc n (nI c) := by
  intro m
  induction m with
  | zero =>
    intro c n hc h1 hn
    obtain ⟨n, rfl⟩ : ∃ n', n = n' + 1 := ⟨n - 1, by omega⟩
    have e : c = 6 := by omega
    subst e
    exact br_t (by decide) k
  | succ m ih =>
    intro c n hc h1 hn
    obtain ⟨n, rfl⟩ : ∃ n', n = n' + 1 := ⟨n - 1, by omega⟩
    refine br_f (nI_ge (b := 6) (by omega) (by decide)) ⟨vp_in_nI (by omega) (by decide), ?_⟩
    refine br_f ?_ (nm_r (nI_1 c) (ih (c + 1) n (by omega) (by omega) (by omega)))
    rw [nI_clamp (n := c) (by omega)]
    exact hl c h1 (by omega)
end
theorem i_vc_make {k : Nat} {u : SX} {v : SY} (I : i_Rel k u v) (hk : k + 5 ≤ 2560) (v1 : Int32) (v2 : Int32) : wpX_make (fun r u' => wpY_make (fun r' v' => r' = r ∧ i_Rel (k + 5) u' v') v v1 v2) u v1 v2 := by
  obtain ⟨T, B, t, p, dx, dy, wd, hg, sh, lv, cx, cy, ow, cl, fx, fy, fo, fc, we, hi, so, wt, wx, wy, wo, wc, dp, rfl, rfl, V, C⟩ := I
  have F := ds_free t 5 1 (by omega) (by omega) (fun d d1 d2 => by omega)
  unfold wpX_make
  by_cases h : ∃ a : Nat, a < 6 ∧ v1 = nI a ∧ t a ≠ 0
  · obtain ⟨a, ha, rfl, ta⟩ := h
    rcases F with F | ⟨w, w1, w6, tw, hl⟩
    · refine xl_least_n F ?_
      refine xl_there_y ha ta (br_f (by decide) (br_t rfl ?_))
      unfold wpY_make
      refine yl_miss_n ha ta (br_t rfl ⟨6, ?_⟩)
      exact yl_mk_n F ⟨rfl, ds_mk V C⟩ 5 1 6 (by omega) (by omega) (by omega)
    · have hv : vp_in (nI w) 6 := vp_in_nI w6 (by decide)
      have e := nI_clamp (n := w) (by omega)
      have w0 : w ≠ 0 := by omega
      have n1 : ¬ nI w = -1 := by
        have := ds_en_m w0 w6
        rw [ds_en_n w0] at this
        exact this
      have hT := ds_T_mk (z := vp_nar .boolean 1) V.1 V.2.1 w1 w6 tw ha ta (by decide)
      have hP := ds_P_mk (w := w) V.2.1 ha
      have z15 : -15 ≤ (0 : Int32).toInt ∧ (0 : Int32).toInt ≤ 15 := by decide
      have V' : ds_V (upd t w (vp_nar .boolean 1)) (upd p w (nI a)) (upd dx w 0) (upd dy w 0) (upd wd w (ds_ln (v2 &&& 15))) (upd hg w (ds_ln ((v2 >>> ((4 : Int32) &&& 31)) &&& 15))) (upd sh w (vp_nar .boolean 1))
          (upd we w (ds_ln (v2 &&& 15))) (upd hi w (ds_ln ((v2 >>> ((4 : Int32) &&& 31)) &&& 15))) (upd so w (vp_nar .boolean 1)) (fun j => if j = w then dp a + 1 else dp j) := by
        refine ⟨hT, hP, ds_B_u V.2.2.1 z15.1 z15.2, ds_B_u V.2.2.2.1 z15.1 z15.2, fun c hc => ⟨ds_u12 (V.2.2.2.2.1 c hc).1 (ds_ln_b _), ds_u12 (V.2.2.2.2.1 c hc).2 (ds_ln_b _)⟩, fun c h1 hc => ⟨ds_u2 (V.2.2.2.2.2.1 c h1 hc).1, ds_u2 (V.2.2.2.2.2.1 c h1 hc).2.1, ds_u2 (V.2.2.2.2.2.1 c h1 hc).2.2⟩, fun j => ?_⟩
        by_cases y : j = w
        · subst y; rw [pk_us]; exact Or.inr ds_nar1
        · rw [pk_un y]; exact V.2.2.2.2.2.2 j
      refine xl_least_y w1 w6 tw hl ?_
      refine xl_there_y ha ta (br_f (by decide) (br_f n1 ?_))
      refine ⟨hv, nm_r (e' := upd t w (vp_nar .boolean 1)) (by rw [e]) ⟨hv, nm_r (e' := upd p w (nI a)) (by rw [e]) ⟨hv, nm_r (e' := upd dx w 0) (by rw [e]) ⟨hv, nm_r (e' := upd dy w 0) (by rw [e]) ⟨hv, nm_r (e' := upd sh w (vp_nar .boolean 1)) (by rw [e]) ?_⟩⟩⟩⟩⟩
      refine xl_sides w6 ?_
      refine xl_ptop w6 ?_
      refine xl_settle V.1 C hT hP (fun cx' cy' ow' fx' fy' fo' fc' C' => ?_)
      unfold wpY_make
      refine yl_miss_n ha ta (br_t rfl ⟨w, ?_⟩)
      refine yl_mk_y w6 hl (fun n => ?_) (w - 1) 1 w (by omega) (by omega) (by omega)
      refine br_f (nI_ge (b := 6) w6 (by decide)) ⟨hv, br_t (by rw [e]; exact tw) ?_⟩
      refine yl_rem V (fun wt' wx' wy' wo' wc' Y => ?_)
      refine ⟨hv, nm_r (e' := upd t w (vp_nar .boolean 1)) (by rw [e]) ⟨hv, nm_r (e' := upd p w (nI a)) (by rw [e]) ⟨hv, nm_r (e' := upd dx w 0) (by rw [e]) ⟨hv, nm_r (e' := upd dy w 0) (by rw [e]) ⟨hv, nm_r (e' := upd so w (vp_nar .boolean 1)) (by rw [e]) ?_⟩⟩⟩⟩⟩
      refine yl_ssize w6 ?_
      refine nm_e ⟨hv, nm_r (e' := upd lv w (T + 1)) (by rw [e]) ?_⟩
      refine yl_settle V' V.1 V.2.1 Y ?_
      exact ⟨rfl, ds_mk V' C'⟩
  · have R : wpY_make (fun r' v' => r' = -1 ∧ i_Rel (k + 5) (T, B, t, p, dx, dy, wd, hg, sh, lv, cx, cy, ow, cl, fx, fy, fo, fc) v') (T, B, t, p, dx, dy, we, hi, so, lv, cl, wt, wx, wy, wo, wc) v1 v2 := by
      unfold wpY_make
      exact yl_miss_y h (br_f (by decide) ⟨rfl, ds_mk V C⟩)
    rcases F with F | ⟨w, w1, w6, tw, hl⟩
    · refine xl_least_n F ?_
      exact xl_there_n h (br_t rfl R)
    · refine xl_least_y w1 w6 tw hl ?_
      exact xl_there_n h (br_t rfl R)
