/-! destroy -/
theorem ds_E_fl {t p : Nat → Int32} {a : Nat} : ds_fl 6 (ds_E t p a) t = ds_E t p a := by
  funext j
  by_cases l : j < 6
  · exact ds_fl_lt l
  · rw [ds_fl_ge l]
    exact (if_neg (fun q => l q.2.1)).symm
section
variable {T B : Int32} {t p dx dy wd hg sh lv cx cy ow cl fx fy fo fc : Nat → Int32} {dp : Nat → Nat} {a : Nat}
theorem xl_ro12 {post : Int32 → SX → Prop} {J : Int32 → Int32 → (Nat → Int32) → (Nat → Int32) → (Nat → Int32) → (Nat → Int32) → (Nat → Int32) → (Nat → Int32) → (Nat → Int32) → (Nat → Int32) → (Nat → Int32) → (Nat → Int32) → (Nat → Int32) → (Nat → Int32) → (Nat → Int32) → (Nat → Int32) → (Nat → Int32) → (Nat → Int32) → Prop} {g N : Nat}
    (H : ds_T t p dp) (hp : ds_P p) (a0 : a ≠ 0) (ha : a < 6) (ta : t a ≠ 0)
    (K : ∀ c r, ds_D t p dp a (g + 1) 1 c → r + ds_ct (ds_nz c) 6 = N → J (nI r) (nI (g + 2)) c p dx dy wd hg sh lv cx cy ow cl fx fy fo fc) : ∀ m w n c r, w + m = 6 → 1 ≤ w → m < n → ds_D t p dp a g w c → r + ds_ct (ds_nz c) 6 = N →
    wX_removeOrphans_12 post J (nI (g + 1)) T B n (nI r) (nI w) c p dx dy wd hg sh lv cx cy ow cl fx fy fo fc := by
  intro m
  induction m with
  | zero =>
    intro w n c r hw w1 hn D hr
    obtain ⟨n, rfl⟩ : ∃ n', n = n' + 1 := ⟨n - 1, by omega⟩
    have e : w = 6 := by omega
    subst e
    exact br_t (by decide) (nm_r (nI_1 (g + 1)) (K c r (ds_D_s D) hr))
  | succ m ih =>
    intro w n c r hw w1 hn D hr
    obtain ⟨n, rfl⟩ : ∃ n', n = n' + 1 := ⟨n - 1, by omega⟩
    have hv : vp_in (nI w) 6 := vp_in_nI (by omega) (by decide)
    have e := nI_clamp (n := w) (by omega)
    have hq : vp_in (p w) 6 := by rw [(hp w (by omega)).2]; exact vp_in_nI (hp w (by omega)).1 (by decide)
    have no : ¬ (c w ≠ 0 ∧ c (ds_up p w) = 0) → wX_removeOrphans_12 post J (nI (g + 1)) T B n (nI r) (nI (w + 1)) c p dx dy wd hg sh lv cx cy ow cl fx fy fo fc := fun z =>
      ih (w + 1) n c r (by omega) (by omega) (by omega) (ds_D_n H hp a0 (ds_D_a a0 ha ta D) D z) hr
    refine br_f (nI_ge (b := 6) (by omega) (by decide)) ⟨hv, ?_⟩
    rw [e]
    refine br_c (fun z => nm_r (nI_1 w) (no (fun q => q.1 z))) (fun z => ⟨hv, hq, ?_⟩)
    refine br_c (fun y => ⟨hv, nm_r (e' := upd c w 0) (by rw [ds_nar0]) (nm_r (nI_1 r) (nm_r (nI_1 w) ?_))⟩) (fun y => nm_r (nI_1 w) (no (fun q => y q.2)))
    refine ih (w + 1) n (upd c w 0) (r + 1) (by omega) (by omega) (by omega) (ds_D_y H hp a0 D w1 (by omega) z y) ?_
    have := ds_nz_d (n := 6) (show w < 6 by omega) z
    omega
theorem xl_ro4 {post : Int32 → SX → Prop} {N : Nat}
    (H : ds_T t p dp) (hp : ds_P p) (a0 : a ≠ 0) (ha : a < 6) (ta : t a ≠ 0)
    (K : ∀ r, r + ds_ct (ds_nz (ds_E t p a)) 6 = N → post (nI r) (T, B, ds_E t p a, p, dx, dy, wd, hg, sh, lv, cx, cy, ow, cl, fx, fy, fo, fc)) : ∀ m g n c r, g + m = 5 → m < n → ds_D t p dp a g 1 c → r + ds_ct (ds_nz c) 6 = N →
    wX_removeOrphans_4 post T B n (nI r) (nI (g + 1)) c p dx dy wd hg sh lv cx cy ow cl fx fy fo fc := by
  intro m
  induction m with
  | zero =>
    intro g n c r hg hn D hr
    obtain ⟨n, rfl⟩ : ∃ n', n = n' + 1 := ⟨n - 1, by omega⟩
    have e : g = 5 := by omega
    subst e
    have ec := ds_D_e H D
    subst ec
    exact br_t (by decide) (K r hr)
  | succ m ih =>
    intro g n c r hg hn D hr
    obtain ⟨n, rfl⟩ : ∃ n', n = n' + 1 := ⟨n - 1, by omega⟩
    refine br_f (nI_ge (b := 6) (by omega) (by decide)) ⟨6, ?_⟩
    exact xl_ro12 H hp a0 ha ta (fun c' r' D' hr' => ih (g + 1) n c' r' (by omega) (by omega) D' hr') 5 1 6 c r (by omega) (by omega) (by omega) D hr
theorem xl_orph {post : Int32 → SX → Prop} (H : ds_T t p dp) (hp : ds_P p) (a0 : a ≠ 0) (ha : a < 6) (ta : t a ≠ 0)
    (K : ∀ r, r + 1 + ds_ct (ds_nz (ds_E t p a)) 6 = ds_ct (ds_nz t) 6 → post (nI r) (T, B, ds_E t p a, p, dx, dy, wd, hg, sh, lv, cx, cy, ow, cl, fx, fy, fo, fc)) : wpX_removeOrphans post (T, B, upd t a 0, p, dx, dy, wd, hg, sh, lv, cx, cy, ow, cl, fx, fy, fo, fc) := by
  have q := ds_nz_d (n := 6) ha ta
  exact ⟨6, xl_ro4 (N := ds_ct (ds_nz (upd t a 0)) 6) H hp a0 ha ta (fun r hr => K r (by omega)) 5 0 6 (upd t a 0) 0 (by omega) (by omega) (ds_D_0 H hp a0 ha) (by omega)⟩
end
section
variable {T B : Int32} {t p dx dy we hi so lv cl wt wx wy wo wc : Nat → Int32} {dp : Nat → Nat} {a : Nat}
theorem yl_wi5 {post : Int32 → Prop} (hp : ds_P p) (ha : a < 6) : ∀ m b s n, b < 6 → s + m = 6 → m < n → (ds_wi p a m b = true → post 1) → (ds_wi p a m b = false → post 0) → wY_within_5 post (nI a) T B t p dx dy we hi so lv cl wt wx wy wo wc n (nI b) (nI s) := by
  intro m
  induction m with
  | zero =>
    intro b s n hb hs hn k1 k0
    obtain ⟨n, rfl⟩ : ∃ n', n = n' + 1 := ⟨n - 1, by omega⟩
    have e : s = 6 := by omega
    subst e
    exact br_t (by decide) (k0 rfl)
  | succ m ih =>
    intro b s n hb hs hn k1 k0
    obtain ⟨n, rfl⟩ : ∃ n', n = n' + 1 := ⟨n - 1, by omega⟩
    have hv : vp_in (nI b) 6 := vp_in_nI (by omega) (by decide)
    have e := nI_clamp (n := b) (by omega)
    by_cases z : b = 0
    · subst z
      exact br_f (nI_ge (b := 6) (by omega) (by decide)) (br_t (by decide) (k0 ds_wi_0))
    · by_cases y : b = a
      · subst y
        exact br_f (nI_ge (b := 6) (by omega) (by decide)) (br_f (nI_nle (by omega) (by omega)) (br_t rfl (k1 (ds_wi_a z))))
      · rw [ds_wi_n z y] at k1 k0
        exact br_f (nI_ge (b := 6) (by omega) (by decide)) (br_f (nI_nle (by omega) (by omega)) (br_f (fun q => y ((nI_eq (by omega) (by omega)).mp q)) ⟨hv, nm_r (by rw [e]; exact (hp b hb).2) (nm_r (nI_1 s) (ih (ds_up p b) (s + 1) n (hp b hb).1 (by omega) (by omega) k1 k0))⟩))
theorem yl_within {post : Int32 → Prop} (hp : ds_P p) (ha : a < 6) {b : Nat} (hb : b < 6) (k1 : ds_wi p a 6 b = true → post 1) (k0 : ds_wi p a 6 b = false → post 0) : wpY_within post (T, B, t, p, dx, dy, we, hi, so, lv, cl, wt, wx, wy, wo, wc) (nI b) (nI a) :=
  ⟨7, yl_wi5 hp ha 6 b 0 7 hb (by omega) (by omega) k1 k0⟩
theorem yl_de22 {post : Int32 → SY → Prop} {N : Nat} (hp : ds_P p) (ha : a < 6) (hwt : ∀ c, c < 6 → (wt c = 0 ↔ t c = 0))
    (K : ∀ r, r + ds_ct (ds_nz (ds_E t p a)) 6 = N → wpY_settle (fun u => post (nI r) u) (T, B, ds_E t p a, p, dx, dy, we, hi, so, lv, cl, wt, wx, wy, wo, wc)) : ∀ m w n r, w + m = 6 → 1 ≤ w → m < n → r + ds_ct (ds_nz (ds_fl w (ds_E t p a) t)) 6 = N →
    wY_destroy_22 post (nI a) T B n (nI r) (nI w) (ds_fl w (ds_E t p a) t) p dx dy we hi so lv cl wt wx wy wo wc := by
  intro m
  induction m with
  | zero =>
    intro w n r hw w1 hn hr
    obtain ⟨n, rfl⟩ : ∃ n', n = n' + 1 := ⟨n - 1, by omega⟩
    have e : w = 6 := by omega
    subst e
    rw [ds_E_fl] at hr ⊢
    exact br_t (by decide) (K r hr)
  | succ m ih =>
    intro w n r hw w1 hn hr
    obtain ⟨n, rfl⟩ : ∃ n', n = n' + 1 := ⟨n - 1, by omega⟩
    have hv : vp_in (nI w) 6 := vp_in_nI (by omega) (by decide)
    have e := nI_clamp (n := w) (by omega)
    have no : ¬ (t w ≠ 0 ∧ ds_wi p a 6 w = true) → wY_destroy_22 post (nI a) T B n (nI r) (nI (w + 1)) (ds_fl w (ds_E t p a) t) p dx dy we hi so lv cl wt wx wy wo wc := by
      intro z
      have ih' := ih (w + 1) n r (by omega) (by omega) (by omega)
      rw [ds_fl_k (ds_E_n z)] at ih'
      exact ih' hr
    refine br_f (nI_ge (b := 6) (by omega) (by decide)) ⟨hv, ?_⟩
    rw [e]
    refine br_c (fun z => nm_r (nI_1 w) (no (fun q => q.1 ((hwt w (by omega)).mp z)))) (fun z => ?_)
    have tw : t w ≠ 0 := fun y => z ((hwt w (by omega)).mpr y)
    refine yl_within hp ha (by omega) (fun y => br_f (by decide) ⟨hv, ?_⟩) (fun y => br_t rfl (nm_r (nI_1 w) (no (fun q => by rw [y] at q; exact absurd q.2 (by decide)))))
    have eE : ds_E t p a w = 0 := ds_E_y w1 (by omega) tw y
    have eu : upd (ds_fl w (ds_E t p a) t) w 0 = ds_fl (w + 1) (ds_E t p a) t := ds_fl_s eE.symm
    refine nm_r (e' := ds_fl (w + 1) (ds_E t p a) t) (by rw [ds_nar0]; exact eu) (nm_r (nI_1 r) (nm_r (nI_1 w) ?_))
    refine ih (w + 1) n (r + 1) (by omega) (by omega) (by omega) ?_
    have q := ds_nz_d (a := ds_fl w (ds_E t p a) t) (n := 6) (show w < 6 by omega) (by rw [ds_fl_ge (Nat.lt_irrefl w)]; exact tw)
    rw [eu] at q
    omega
end
theorem i_vc_destroy {k : Nat} {u : SX} {v : SY} (I : i_Rel k u v) (hk : k + 5 ≤ 2560) (v1 : Int32) : wpX_destroy (fun r u' => wpY_destroy (fun r' v' => r' = r ∧ i_Rel (k + 5) u' v') v v1) u v1 := by
  obtain ⟨T, B, t, p, dx, dy, wd, hg, sh, lv, cx, cy, ow, cl, fx, fy, fo, fc, we, hi, so, wt, wx, wy, wo, wc, dp, rfl, rfl, V, C⟩ := I
  unfold wpX_destroy
  by_cases h : ∃ a : Nat, a ≠ 0 ∧ a < 6 ∧ v1 = nI a ∧ t a ≠ 0
  · obtain ⟨a, a0, ha, rfl, ht⟩ := h
    have hv : vp_in (nI a) 6 := vp_in_nI ha (by decide)
    have e := nI_clamp (n := a) (by omega)
    have hT := ds_E_T V.1 V.2.1 a0
    have V' : ds_V (ds_E t p a) p dx dy wd hg sh we hi so dp := ⟨hT, V.2.1, V.2.2.1, V.2.2.2.1, V.2.2.2.2.1, V.2.2.2.2.2.1, ds_E_01 V.2.2.2.2.2.2⟩
    refine xl_chg_y a0 ha ht (br_f (by decide) ⟨hv, nm_r (e' := upd t a 0) (by rw [e, ds_nar0]) ?_⟩)
    refine xl_orph V.1 V.2.1 a0 ha ht (fun r hr => ?_)
    refine xl_settle V.1 C hT V.2.1 (fun cx' cy' ow' fx' fy' fo' fc' C' => ?_)
    unfold wpY_destroy
    refine yl_miss_n ha ht (br_t rfl (br_f (nI_ne0 (by omega) (by omega)) ?_))
    refine yl_rem V (fun wt' wx' wy' wo' wc' Y => ⟨6, ?_⟩)
    have hY := fun post N K hr' => yl_de22 (post := post) (T := T) (B := B) (t := t) (dx := dx) (dy := dy) (we := we) (hi := hi) (so := so) (lv := lv) (cl := cl) (wt := wt') (wx := wx') (wy := wy') (wo := wo') (wc := wc') (N := N) V.2.1 ha (fun c hc => (Y.1 c hc).1) K 5 1 6 0 (by omega) (by omega) (by omega) hr'
    rw [ds_fl_1 (show ds_E t p a 0 = t 0 from if_neg (fun q => absurd q.1 (by decide)))] at hY
    refine hY _ (ds_ct (ds_nz t) 6) (fun r' hr' => ?_) (by omega)
    refine yl_settle V' V.1 V.2.1 Y ?_
    refine ⟨?_, ds_mk V' C'⟩
    rw [show r' = r + 1 by omega, ← nI_1, Int32.add_comm]
  · refine xl_chg_n h (br_t rfl ?_)
    unfold wpY_destroy
    exact yl_ref h (br_f (by decide) ⟨rfl, ds_mk V C⟩) (fun w0 => br_t rfl (br_t w0 ⟨rfl, ds_mk V C⟩))
