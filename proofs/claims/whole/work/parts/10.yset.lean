/-! Y: remember, kept, settle -/
def ds_YC (t p dx dy : Nat → Int32) (O0 : Nat → Nat → Nat) (cl wt wx wy wo wc : Nat → Int32) : Prop :=
  (∀ c, c < 6 → (wt c = 0 ↔ t c = 0) ∧ wx c = ds_cs dx p 6 c 0 ∧ wy c = ds_cs dy p 6 c 0) ∧ (∀ j, j < 120 → wo j = nI (O0 (j % 12) (j / 12)) ∧ wc j = vp_nar .boolean (cl j))
section
variable {T B : Int32} {t p dx dy we hi so lv cl wt wx wy wo wc : Nat → Int32} {wd hg sh : Nat → Int32} {dp : Nat → Nat}
theorem yl_re50 {post : SY → Prop} (V : ds_V t p dx dy wd hg sh we hi so dp) (k : post (T, B, t, p, dx, dy, we, hi, so, lv, cl, wt, wx, wy, ds_fl 120 (ds_g t p dx dy wd hg sh lv) wo, ds_fl 120 (fun j => vp_nar .boolean (cl j)) wc)) : ∀ m i n, i + m = 120 → m < n →
    wY_remember_50 post T B n (nI i) t p dx dy we hi so lv cl wt wx wy (ds_fl i (ds_g t p dx dy wd hg sh lv) wo) (ds_fl i (fun j => vp_nar .boolean (cl j)) wc) := by
  intro m
  induction m with
  | zero =>
    intro i n h_i hn
    obtain ⟨n, rfl⟩ : ∃ n', n = n' + 1 := ⟨n - 1, by omega⟩
    have e : i = 120 := by omega
    subst e
    exact br_t (by decide) k
  | succ m ih =>
    intro i n h_i hn
    obtain ⟨n, rfl⟩ : ∃ n', n = n' + 1 := ⟨n - 1, by omega⟩
    have hv : vp_in (nI i) 120 := vp_in_nI (by omega) (by decide)
    have e := nI_clamp (n := i) (by omega)
    refine br_f (nI_ge (b := 120) (by omega) (by decide)) ⟨by decide, by decide, ?_⟩
    rw [ds_rm (by omega), ds_dv (by omega)]
    exact yl_owner V (by omega) (by omega) ⟨hv, nm_r (by rw [e]; exact ds_fl_s rfl) ⟨hv, hv, nm_r (by rw [e]; exact ds_fl_s rfl) (nm_r (nI_1 i) (ih (i + 1) n (by omega) (by omega)))⟩⟩
theorem yl_re2 {post : SY → Prop} (V : ds_V t p dx dy wd hg sh we hi so dp) (k : post (T, B, t, p, dx, dy, we, hi, so, lv, cl, ds_fl 6 (fun j => vp_nar .boolean (t j)) wt, ds_fl 6 (fun j => ds_cs dx p 6 j 0) wx, ds_fl 6 (fun j => ds_cs dy p 6 j 0) wy, ds_fl 120 (ds_g t p dx dy wd hg sh lv) wo, ds_fl 120 (fun j => vp_nar .boolean (cl j)) wc)) : ∀ m i n, i + m = 6 → m < n →
    wY_remember_2 post T B n (nI i) t p dx dy we hi so lv cl (ds_fl i (fun j => vp_nar .boolean (t j)) wt) (ds_fl i (fun j => ds_cs dx p 6 j 0) wx) (ds_fl i (fun j => ds_cs dy p 6 j 0) wy) wo wc := by
  intro m
  induction m with
  | zero =>
    intro i n h_i hn
    obtain ⟨n, rfl⟩ : ∃ n', n = n' + 1 := ⟨n - 1, by omega⟩
    have e : i = 6 := by omega
    subst e
    have h := yl_re50 (wt := ds_fl 6 (fun j => vp_nar .boolean (t j)) wt) (wx := ds_fl 6 (fun j => ds_cs dx p 6 j 0) wx) (wy := ds_fl 6 (fun j => ds_cs dy p 6 j 0) wy) V k 120 0 121 (by omega) (by omega)
    rw [ds_fl_0, ds_fl_0] at h
    exact br_t (by decide) ⟨121, h⟩
  | succ m ih =>
    intro i n h_i hn
    obtain ⟨n, rfl⟩ : ∃ n', n = n' + 1 := ⟨n - 1, by omega⟩
    have hv : vp_in (nI i) 6 := vp_in_nI (by omega) (by decide)
    have e := nI_clamp (n := i) (by omega)
    exact br_f (nI_ge (b := 6) (by omega) (by decide)) ⟨hv, hv, nm_r (by rw [e]; exact ds_fl_s rfl) (yl_cornerX V.2.1 (by omega) ⟨hv, nm_r (by rw [e]; exact ds_fl_s rfl) (yl_cornerY V.2.1 (by omega) ⟨hv, nm_r (by rw [e]; exact ds_fl_s rfl) (nm_r (nI_1 i) (ih (i + 1) n (by omega) (by omega)))⟩)⟩)⟩
theorem yl_rem {post : SY → Prop} (V : ds_V t p dx dy wd hg sh we hi so dp) (k : ∀ wt' wx' wy' wo' wc', ds_YC t p dx dy (ds_O t p dx dy wd hg sh lv) cl wt' wx' wy' wo' wc' → post (T, B, t, p, dx, dy, we, hi, so, lv, cl, wt', wx', wy', wo', wc')) : wpY_remember post (T, B, t, p, dx, dy, we, hi, so, lv, cl, wt, wx, wy, wo, wc) := by
  have h := yl_re2 (wt := wt) (wx := wx) (wy := wy) (wo := wo) (wc := wc) V (k _ _ _ _ _ ⟨fun c hc => ⟨by rw [ds_fl_lt hc, ds_nar (V.2.2.2.2.2.2 c)], ds_fl_lt hc, ds_fl_lt hc⟩, fun j hj => ⟨ds_fl_lt hj, ds_fl_lt hj⟩⟩) 6 0 7 (by omega) (by omega)
  rw [ds_fl_0, ds_fl_0, ds_fl_0] at h
  exact ⟨7, h⟩
theorem yl_kept {post : Int32 → Prop} {w x y : Nat} (hp : ds_P p) (hw : w < 6) (k : post (if wt w = 0 then 0 else ds_k (nI x - ds_cs dx p 6 w 0 + wx w) (nI y - ds_cs dy p 6 w 0 + wy w) wo wc w)) : wpY_kept post (T, B, t, p, dx, dy, we, hi, so, lv, cl, wt, wx, wy, wo, wc) (nI w) (nI x) (nI y) := by
  have hv : vp_in (nI w) 6 := vp_in_nI hw (by decide)
  have e := nI_clamp (n := w) (by omega)
  unfold wpY_kept
  refine yl_cornerX hp hw ⟨hv, fun x4 e4 => ?_⟩
  refine yl_cornerY hp hw ⟨hv, fun x5 e5 => ⟨hv, ?_⟩⟩
  rw [e] at e4 e5
  rw [← e4, ← e5] at k
  rw [e]
  refine br_c (fun z => ?_) (fun z0 => ?_)
  · rw [if_pos z] at k; exact k
  rw [if_neg z0] at k
  have no : ¬ (0 ≤ x4 ∧ x4 < 12 ∧ 0 ≤ x5 ∧ x5 < 10) → post 0 := by
    intro z
    unfold ds_k at k
    rw [if_neg (fun q => z ⟨q.1, q.2.1, q.2.2.1, q.2.2.2.1⟩)] at k
    exact k
  refine br_c (fun z => no (fun q => Int32.not_lt.mpr q.1 z)) (fun z1 => ?_)
  obtain ⟨a, ha, rfl⟩ := nI_of z1
  refine br_c (fun z => no (fun q => ?_)) (fun z2 => ?_)
  · have h1 := (nI_ltI (a := 11) (b := a) (by decide) ha).mp z
    have h2 := (nI_ltI (a := a) (b := 12) ha (by decide)).mp q.2.1
    omega
  have h2 := (not_congr (nI_ltI (a := 11) (b := a) (by decide) ha)).mp z2
  refine br_c (fun z => no (fun q => Int32.not_lt.mpr q.2.2.1 z)) (fun z3 => ?_)
  obtain ⟨b, hb, rfl⟩ := nI_of z3
  refine br_c (fun z4 => ?_) (fun z => no (fun q => ?_))
  · have h4 := (nI_leI (a := b) (b := 9) hb (by decide)).mp z4
    have ei : (12 : Int32) * nI b + nI a = nI (12 * b + a) := by
      rw [show (12 : Int32) = nI 12 from rfl, pk_mul, nI_add]
    have hq : vp_in (nI (12 * b + a)) 120 := vp_in_nI (by omega) (by decide)
    rw [ei]
    refine ⟨hq, ?_⟩
    rw [nI_clamp (n := 12 * b + a) (by omega)]
    unfold ds_k at k
    rw [nI_clamp (n := a) (by omega), nI_clamp (n := b) (by omega)] at k
    have z : 0 ≤ nI a ∧ nI a < 12 ∧ 0 ≤ nI b ∧ nI b < 10 := ⟨nI_pos' ha, nI_lt (b := 12) (by omega) (by decide), nI_pos' hb, nI_lt (b := 10) (by omega) (by decide)⟩
    refine br_c (fun o => ⟨hq, br_c (fun c => ?_) (fun c => ?_)⟩) (fun o => ?_)
    · rw [if_neg (fun q => q.2.2.2.2.2 c)] at k; exact k
    · rw [if_pos ⟨z.1, z.2.1, z.2.2.1, z.2.2.2, o, c⟩] at k; exact k
    · rw [if_neg (fun q => o q.2.2.2.2.1)] at k; exact k
  · have h1 := (not_congr (nI_leI (a := b) (b := 9) hb (by decide))).mp z
    have h2 := (nI_ltI (a := b) (b := 10) hb (by decide)).mp q.2.2.2
    omega
theorem ds_kN {t0 p0 dx0 dy0 : Nat → Int32} {dp0 : Nat → Nat} {O0 : Nat → Nat → Nat} {x y w : Nat} (H : ds_T t p dp) (hp : ds_P p) (H0 : ds_T t0 p0 dp0) (hp0 : ds_P p0) (Y : ds_YC t0 p0 dx0 dy0 O0 cl wt wx wy wo wc) (hw : w < 6) (ht : t w ≠ 0) :
    (if wt w = 0 then 0 else ds_k (nI x - ds_cs dx p 6 w 0 + wx w) (nI y - ds_cs dy p 6 w 0 + wy w) wo wc w)
     = (if t0 w = 0 then 0 else ds_k (nI x - ds_cs dx p 5 w 0 + ds_cs dx0 p0 5 w 0) (nI y - ds_cs dy p 5 w 0 + ds_cs dy0 p0 5 w 0) (fun i => nI (O0 (i % 12) (i / 12))) (fun i => vp_nar .boolean (cl i)) w) := by
  have q := Y.1 w hw
  by_cases z : t0 w = 0
  · rw [if_pos z, if_pos (q.1.mpr z)]
  · rw [if_neg z, if_neg (fun y => z (q.1.mp y)), q.2.1, q.2.2, ds_cs_6 H hp hw ht, ds_cs_6 H hp hw ht, ds_cs_6 H0 hp0 hw z, ds_cs_6 H0 hp0 hw z]
    exact ds_k_c Y.2
theorem yl_se2 {post : SY → Prop} {t0 p0 dx0 dy0 wt wx wy wo wc cl0 : Nat → Int32} {dp0 : Nat → Nat} {O0 : Nat → Nat → Nat} (V : ds_V t p dx dy wd hg sh we hi so dp) (H0 : ds_T t0 p0 dp0) (hp0 : ds_P p0) (Y : ds_YC t0 p0 dx0 dy0 O0 cl0 wt wx wy wo wc)
    (k : post (T, B, t, p, dx, dy, we, hi, so, lv, ds_fl 120 (ds_NC t0 p0 dx0 dy0 O0 p dx dy (ds_O t p dx dy wd hg sh lv) cl0) cl, wt, wx, wy, wo, wc)) : ∀ m i n, i + m = 120 → m < n →
    wY_settle_2 post T B n (nI i) t p dx dy we hi so lv (ds_fl i (ds_NC t0 p0 dx0 dy0 O0 p dx dy (ds_O t p dx dy wd hg sh lv) cl0) cl) wt wx wy wo wc := by
  intro m
  induction m with
  | zero =>
    intro i n h_i hn
    obtain ⟨n, rfl⟩ : ∃ n', n = n' + 1 := ⟨n - 1, by omega⟩
    have e : i = 120 := by omega
    subst e
    exact br_t (by decide) k
  | succ m ih =>
    intro i n h_i hn
    obtain ⟨n, rfl⟩ : ∃ n', n = n' + 1 := ⟨n - 1, by omega⟩
    have hv : vp_in (nI i) 120 := vp_in_nI (by omega) (by decide)
    have e := nI_clamp (n := i) (by omega)
    have hO := ds_O_in (dx := dx) (dy := dy) (wd := wd) (hg := hg) (sh := sh) (lv := lv) (x := i % 12) (y := i / 12) V.1
    refine br_f (nI_ge (b := 120) (by omega) (by decide)) ⟨by decide, by decide, ?_⟩
    rw [ds_rm (by omega), ds_dv (by omega)]
    refine yl_owner V (by omega) (by omega) ⟨by decide, by decide, ?_⟩
    refine yl_kept V.2.1 hO.1 ⟨hv, nm_r ?_ (nm_r (nI_1 i) (ih (i + 1) n (by omega) (by omega)))⟩
    rw [e]
    exact ds_fl_s (congrArg (vp_nar .boolean) (ds_kN V.1 V.2.1 H0 hp0 Y hO.1 hO.2))
theorem yl_settle {post : SY → Prop} {t0 p0 dx0 dy0 : Nat → Int32} {dp0 : Nat → Nat} {O0 : Nat → Nat → Nat} (V : ds_V t p dx dy wd hg sh we hi so dp) (H0 : ds_T t0 p0 dp0) (hp0 : ds_P p0) (Y : ds_YC t0 p0 dx0 dy0 O0 cl wt wx wy wo wc)
    (k : post (T, B, t, p, dx, dy, we, hi, so, lv, ds_fl 120 (ds_NC t0 p0 dx0 dy0 O0 p dx dy (ds_O t p dx dy wd hg sh lv) cl) cl, wt, wx, wy, wo, wc)) : wpY_settle post (T, B, t, p, dx, dy, we, hi, so, lv, cl, wt, wx, wy, wo, wc) := by
  have h := yl_se2 V H0 hp0 Y k 120 0 121 (by omega) (by omega)
  rw [ds_fl_0] at h
  exact ⟨121, h⟩
end
