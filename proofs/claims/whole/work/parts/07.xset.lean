/-! X: settle -/
theorem xl_on {post : Int32 → Prop} {A D : Int32} (k1 : 0 ≤ A ∧ A < 12 ∧ 0 ≤ D ∧ D < 10 → post 1) (k0 : ¬ (0 ≤ A ∧ A < 12 ∧ 0 ≤ D ∧ D < 10) → post 0) : wpX_isOnScreen post A D :=
  br_c (fun z => k0 (fun q => Int32.not_lt.mpr q.1 z)) (fun z1 => br_c (fun z => k0 (fun q => Int32.not_le.mpr q.2.1 z)) (fun z2 => br_c (fun z => k0 (fun q => Int32.not_lt.mpr q.2.2.1 z)) (fun z3 => br_c (fun z => k0 (fun q => Int32.not_le.mpr q.2.2.2 z)) (fun z4 =>
    k1 ⟨Int32.not_lt.mp z1, Int32.not_le.mp z2, Int32.not_lt.mp z3, Int32.not_le.mp z4⟩))))
theorem ds_ix (a b : Nat) : nI b * 12 + nI a = nI (12 * b + a) := by
  rw [show (12 : Int32) = nI 12 from rfl, pk_mul, nI_add, Nat.mul_comm]
theorem xl_pix {post : Int32 → Prop} {a b : Nat} (k : post (nI (12 * b + a))) : wpX_pixelAt post (nI a) (nI b) := by
  show post (nI b * 12 + nI a)
  rw [ds_ix]; exact k
def ds_nc (t d p c : Nat → Int32) : Nat → Int32 := fun j => if j ≠ 0 ∧ t j ≠ 0 then ds_cs d p 5 j 0 else c j
section
variable {T B : Int32} {t p dx dy wd hg sh lv cx cy ow cl fx fy fo fc : Nat → Int32}
theorem xl_car {post : Int32 → Prop} {w x y : Nat} (hw : w < 6) (k : post (ds_k (nI x - cx w + fx w) (nI y - cy w + fy w) fo fc w)) : wpX_isCarriedClean post (T, B, t, p, dx, dy, wd, hg, sh, lv, cx, cy, ow, cl, fx, fy, fo, fc) (nI w) (nI x) (nI y) := by
  have hv : vp_in (nI w) 6 := vp_in_nI hw (by decide)
  have e := nI_clamp (n := w) (by omega)
  refine ⟨hv, hv, fun x4 e4 => ⟨hv, hv, fun x5 e5 => ?_⟩⟩
  rw [e] at e4 e5
  rw [← e4, ← e5] at k
  refine xl_on (fun z => br_f (by decide) ?_) (fun z => br_t rfl ?_)
  · obtain ⟨a, b, ha, hb, rfl, rfl⟩ := ds_k_ix z.1 z.2.1 z.2.2.1 z.2.2.2
    refine xl_pix ?_
    have hq : vp_in (nI (12 * b + a)) 120 := vp_in_nI (by omega) (by decide)
    refine ⟨hq, ?_⟩
    rw [nI_clamp (n := 12 * b + a) (by omega)]
    unfold ds_k at k
    rw [nI_clamp (n := a) (by omega), nI_clamp (n := b) (by omega)] at k
    refine br_c (fun o => ⟨hq, br_c (fun c => ?_) (fun c => ?_)⟩) (fun o => ?_)
    · rw [if_neg (fun q => q.2.2.2.2.2 c)] at k; exact k
    · rw [if_pos ⟨z.1, z.2.1, z.2.2.1, z.2.2.2, o, c⟩] at k; exact k
    · rw [if_neg (fun q => o q.2.2.2.2.1)] at k; exact k
  · unfold ds_k at k
    rw [if_neg (fun q => z ⟨q.1, q.2.1, q.2.2.1, q.2.2.2.1⟩)] at k
    exact k
theorem xl_kf40 {post : SX → Prop} (k : post (T, B, t, p, dx, dy, wd, hg, sh, lv, cx, cy, ow, cl, fx, fy, ds_fl 120 ow fo, ds_fl 120 (fun j => vp_nar .boolean (cl j)) fc)) : ∀ m i n, i + m = 120 → m < n →
    wX_keepFormer_40 post T B n (nI i) t p dx dy wd hg sh lv cx cy ow cl fx fy (ds_fl i ow fo) (ds_fl i (fun j => vp_nar .boolean (cl j)) fc) := by
  intro m
  induction m with
  | zero =>
    intro i n hi hn
    obtain ⟨n, rfl⟩ : ∃ n', n = n' + 1 := ⟨n - 1, by omega⟩
    have e : i = 120 := by omega
    subst e
    exact br_t (by decide) k
  | succ m ih =>
    intro i n hi hn
    obtain ⟨n, rfl⟩ : ∃ n', n = n' + 1 := ⟨n - 1, by omega⟩
    have hv : vp_in (nI i) 120 := vp_in_nI (by omega) (by decide)
    have e := nI_clamp (n := i) (by omega)
    exact br_f (nI_ge (b := 120) (by omega) (by decide)) ⟨hv, hv, nm_r (by rw [e]; exact ds_fl_s rfl) ⟨hv, hv, nm_r (by rw [e]; exact ds_fl_s rfl) (nm_r (nI_1 i) (ih (i + 1) n (by omega) (by omega)))⟩⟩
theorem xl_kf2 {post : SX → Prop} (k : post (T, B, t, p, dx, dy, wd, hg, sh, lv, cx, cy, ow, cl, ds_fl 6 cx fx, ds_fl 6 cy fy, ds_fl 120 ow fo, ds_fl 120 (fun j => vp_nar .boolean (cl j)) fc)) : ∀ m i n, i + m = 6 → m < n →
    wX_keepFormer_2 post T B n (nI i) t p dx dy wd hg sh lv cx cy ow cl (ds_fl i cx fx) (ds_fl i cy fy) fo fc := by
  intro m
  induction m with
  | zero =>
    intro i n hi hn
    obtain ⟨n, rfl⟩ : ∃ n', n = n' + 1 := ⟨n - 1, by omega⟩
    have e : i = 6 := by omega
    subst e
    have h := xl_kf40 (fx := ds_fl 6 cx fx) (fy := ds_fl 6 cy fy) k 120 0 121 (by omega) (by omega)
    rw [ds_fl_0, ds_fl_0] at h
    exact br_t (by decide) ⟨121, h⟩
  | succ m ih =>
    intro i n hi hn
    obtain ⟨n, rfl⟩ : ∃ n', n = n' + 1 := ⟨n - 1, by omega⟩
    have hv : vp_in (nI i) 6 := vp_in_nI (by omega) (by decide)
    have e := nI_clamp (n := i) (by omega)
    exact br_f (nI_ge (b := 6) (by omega) (by decide)) ⟨hv, hv, nm_r (by rw [e]; exact ds_fl_s rfl) ⟨hv, hv, nm_r (by rw [e]; exact ds_fl_s rfl) (nm_r (nI_1 i) (ih (i + 1) n (by omega) (by omega)))⟩⟩
theorem xl_keep {post : SX → Prop} (k : post (T, B, t, p, dx, dy, wd, hg, sh, lv, cx, cy, ow, cl, ds_fl 6 cx fx, ds_fl 6 cy fy, ds_fl 120 ow fo, ds_fl 120 (fun j => vp_nar .boolean (cl j)) fc)) : wpX_keepFormer post (T, B, t, p, dx, dy, wd, hg, sh, lv, cx, cy, ow, cl, fx, fy, fo, fc) := by
  have h := xl_kf2 k 6 0 7 (by omega) (by omega)
  rw [ds_fl_0, ds_fl_0] at h
  exact ⟨7, h⟩
theorem xl_pc10 {post : SX → Prop} {w : Nat} (hp : ds_P p) : ∀ m a s n (sx sy : Int32), a < 6 → s + m = 6 → m < n → wX_placeCorner_57 post (nI w) (ds_cs dx p m a sx) (ds_cs dy p m a sy) T B t p dx dy wd hg sh lv cx cy ow cl fx fy fo fc →
    wX_placeCorner_10 post (nI w) T B t p dx dy wd hg sh lv cx cy ow cl fx fy fo fc n sx sy (nI a) (nI s) := by
  intro m
  induction m with
  | zero =>
    intro a s n sx sy ha hs hn k
    obtain ⟨n, rfl⟩ : ∃ n', n = n' + 1 := ⟨n - 1, by omega⟩
    have e : s = 6 := by omega
    subst e
    exact br_t (by decide) k
  | succ m ih =>
    intro a s n sx sy ha hs hn k
    obtain ⟨n, rfl⟩ : ∃ n', n = n' + 1 := ⟨n - 1, by omega⟩
    have hv : vp_in (nI a) 6 := vp_in_nI (by omega) (by decide)
    have e := nI_clamp (n := a) (by omega)
    by_cases z : a = 0
    · subst z
      rw [ds_cs_0, ds_cs_0] at k
      exact br_f (nI_ge (b := 6) (by omega) (by decide)) (br_t rfl k)
    · rw [ds_cs_n z, ds_cs_n z] at k
      exact br_f (nI_ge (b := 6) (by omega) (by decide)) (br_f (nI_ne0 (by omega) (by omega)) ⟨hv, nm_r (by rw [e]) ⟨hv, nm_r (by rw [e]) ⟨hv, nm_r (by rw [e]; exact (hp a ha).2) (nm_r (nI_1 s) (ih (ds_up p a) (s + 1) n _ _ (hp a ha).1 (by omega) (by omega) k))⟩⟩⟩)
theorem xl_place {post : SX → Prop} {w : Nat} (hp : ds_P p) (hw : w < 6) (k : post (T, B, t, p, dx, dy, wd, hg, sh, lv, upd cx w (ds_cs dx p 5 w 0), upd cy w (ds_cs dy p 5 w 0), ow, cl, fx, fy, fo, fc)) : wpX_placeCorner post (T, B, t, p, dx, dy, wd, hg, sh, lv, cx, cy, ow, cl, fx, fy, fo, fc) (nI w) := by
  have hv : vp_in (nI w) 6 := vp_in_nI (by omega) (by decide)
  have e := nI_clamp (n := w) (by omega)
  exact ⟨6, xl_pc10 hp 5 w 1 6 0 0 hw (by omega) (by omega) ⟨hv, nm_r (by rw [e]) ⟨hv, nm_r (by rw [e]) k⟩⟩⟩
theorem xl_pl2 {post : SX → Prop} (hp : ds_P p) (k : post (T, B, t, p, dx, dy, wd, hg, sh, lv, ds_fl 6 (ds_nc t dx p cx) cx, ds_fl 6 (ds_nc t dy p cy) cy, ow, cl, fx, fy, fo, fc)) : ∀ m i n, 1 ≤ i → i + m = 6 → m < n →
    wX_placeCorners_2 post n (nI i) T B t p dx dy wd hg sh lv (ds_fl i (ds_nc t dx p cx) cx) (ds_fl i (ds_nc t dy p cy) cy) ow cl fx fy fo fc := by
  intro m
  induction m with
  | zero =>
    intro i n h1 hi hn
    obtain ⟨n, rfl⟩ : ∃ n', n = n' + 1 := ⟨n - 1, by omega⟩
    have e : i = 6 := by omega
    subst e
    exact br_t (by decide) k
  | succ m ih =>
    intro i n h1 hi hn
    obtain ⟨n, rfl⟩ : ∃ n', n = n' + 1 := ⟨n - 1, by omega⟩
    have hv : vp_in (nI i) 6 := vp_in_nI (by omega) (by decide)
    have e := nI_clamp (n := i) (by omega)
    have ih' := ih (i + 1) n (by omega) (by omega) (by omega)
    refine br_f (nI_ge (b := 6) (by omega) (by decide)) ⟨hv, ?_⟩
    rw [e]
    refine br_c (fun z => nm_r (nI_1 i) ?_) (fun z => xl_place hp (by omega) (nm_r (nI_1 i) ?_))
    · have e1 : ds_nc t dx p cx i = cx i := if_neg (fun q => q.2 z)
      have e2 : ds_nc t dy p cy i = cy i := if_neg (fun q => q.2 z)
      rw [ds_fl_k e1, ds_fl_k e2] at ih'
      exact ih'
    · have e1 : ds_cs dx p 5 i 0 = ds_nc t dx p cx i := (if_pos ⟨by omega, z⟩).symm
      have e2 : ds_cs dy p 5 i 0 = ds_nc t dy p cy i := (if_pos ⟨by omega, z⟩).symm
      rw [ds_fl_s e1, ds_fl_s e2]
      exact ih'
theorem ds_fl_1 {g a : Nat → Int32} (h : g 0 = a 0) : ds_fl 1 g a = a := by
  rw [ds_fl_k h, ds_fl_0]
theorem xl_places {post : SX → Prop} (hp : ds_P p) (k : post (T, B, t, p, dx, dy, wd, hg, sh, lv, ds_fl 6 (ds_nc t dx p cx) cx, ds_fl 6 (ds_nc t dy p cy) cy, ow, cl, fx, fy, fo, fc)) : wpX_placeCorners post (T, B, t, p, dx, dy, wd, hg, sh, lv, cx, cy, ow, cl, fx, fy, fo, fc) := by
  have h := xl_pl2 hp k 5 1 6 (by omega) (by omega) (by omega)
  rw [ds_fl_1 (if_neg (fun q => q.1 rfl)), ds_fl_1 (if_neg (fun q => q.1 rfl))] at h
  exact ⟨6, h⟩
def ds_g (t p dx dy wd hg sh lv : Nat → Int32) : Nat → Int32 := fun j => nI (ds_O t p dx dy wd hg sh lv (j % 12) (j / 12))
theorem xl_ao10 {post : SX → Prop} {J : Int32 → (Nat → Int32) → (Nat → Int32) → (Nat → Int32) → (Nat → Int32) → (Nat → Int32) → (Nat → Int32) → (Nat → Int32) → (Nat → Int32) → (Nat → Int32) → (Nat → Int32) → (Nat → Int32) → (Nat → Int32) → (Nat → Int32) → (Nat → Int32) → (Nat → Int32) → (Nat → Int32) → Prop} {y : Nat} (hy : y < 10)
    (hcx : ∀ c, c < 6 → t c ≠ 0 → cx c = ds_cs dx p 5 c 0 ∧ cy c = ds_cs dy p 5 c 0) (k : J (nI (y + 1)) t p dx dy wd hg sh lv cx cy (ds_fl (12 * (y + 1)) (ds_g t p dx dy wd hg sh lv) ow) cl fx fy fo fc) : ∀ m x n, x + m = 12 → m < n →
    wX_assignOwners_10 post J (nI y) T B n (nI x) t p dx dy wd hg sh lv cx cy (ds_fl (12 * y + x) (ds_g t p dx dy wd hg sh lv) ow) cl fx fy fo fc := by
  intro m
  induction m with
  | zero =>
    intro x n hx hn
    obtain ⟨n, rfl⟩ : ∃ n', n = n' + 1 := ⟨n - 1, by omega⟩
    have e : x = 12 := by omega
    subst e
    exact br_t (by decide) (nm_r (nI_1 y) k)
  | succ m ih =>
    intro x n hx hn
    obtain ⟨n, rfl⟩ : ∃ n', n = n' + 1 := ⟨n - 1, by omega⟩
    have hv : vp_in (nI (12 * y + x)) 120 := vp_in_nI (by omega) (by decide)
    have e := nI_clamp (n := 12 * y + x) (by omega)
    have eg : nI (ds_O t p dx dy wd hg sh lv x y) = ds_g t p dx dy wd hg sh lv (12 * y + x) := by
      unfold ds_g
      rw [show (12 * y + x) % 12 = x by omega, show (12 * y + x) / 12 = y by omega]
    exact br_f (nI_ge (b := 12) (by omega) (by decide)) (xl_pix (xl_find hcx ⟨hv, nm_r (by rw [e]; exact ds_fl_s eg) (nm_r (nI_1 x) (ih (x + 1) n (by omega) (by omega)))⟩))
theorem xl_ao2 {post : SX → Prop} (hcx : ∀ c, c < 6 → t c ≠ 0 → cx c = ds_cs dx p 5 c 0 ∧ cy c = ds_cs dy p 5 c 0) (k : post (T, B, t, p, dx, dy, wd, hg, sh, lv, cx, cy, ds_fl 120 (ds_g t p dx dy wd hg sh lv) ow, cl, fx, fy, fo, fc)) : ∀ m y n, y + m = 10 → m < n →
    wX_assignOwners_2 post T B n (nI y) t p dx dy wd hg sh lv cx cy (ds_fl (12 * y) (ds_g t p dx dy wd hg sh lv) ow) cl fx fy fo fc := by
  intro m
  induction m with
  | zero =>
    intro y n hy hn
    obtain ⟨n, rfl⟩ : ∃ n', n = n' + 1 := ⟨n - 1, by omega⟩
    have e : y = 10 := by omega
    subst e
    exact br_t (by decide) k
  | succ m ih =>
    intro y n hy hn
    obtain ⟨n, rfl⟩ : ∃ n', n = n' + 1 := ⟨n - 1, by omega⟩
    exact br_f (nI_ge (b := 10) (by omega) (by decide)) ⟨13, xl_ao10 (by omega) hcx (ih (y + 1) n (by omega) (by omega)) 12 0 13 (by omega) (by omega)⟩
theorem xl_assign {post : SX → Prop} (hcx : ∀ c, c < 6 → t c ≠ 0 → cx c = ds_cs dx p 5 c 0 ∧ cy c = ds_cs dy p 5 c 0) (k : post (T, B, t, p, dx, dy, wd, hg, sh, lv, cx, cy, ds_fl 120 (ds_g t p dx dy wd hg sh lv) ow, cl, fx, fy, fo, fc)) : wpX_assignOwners post (T, B, t, p, dx, dy, wd, hg, sh, lv, cx, cy, ow, cl, fx, fy, fo, fc) := by
  have h := xl_ao2 hcx k 10 0 11 (by omega) (by omega)
  rw [show 12 * 0 = 0 from rfl, ds_fl_0] at h
  exact ⟨11, h⟩
/-- what carryClean writes, W the owners -/
def ds_h (cx cy fx fy fo fc : Nat → Int32) (W : Nat → Nat) : Nat → Int32 := fun j => vp_nar .boolean (ds_k (nI (j % 12) - cx (W j) + fx (W j)) (nI (j / 12) - cy (W j) + fy (W j)) fo fc (W j))
theorem xl_cc10 {post : SX → Prop} {J : Int32 → (Nat → Int32) → (Nat → Int32) → (Nat → Int32) → (Nat → Int32) → (Nat → Int32) → (Nat → Int32) → (Nat → Int32) → (Nat → Int32) → (Nat → Int32) → (Nat → Int32) → (Nat → Int32) → (Nat → Int32) → (Nat → Int32) → (Nat → Int32) → (Nat → Int32) → (Nat → Int32) → Prop} {y : Nat} (hy : y < 10) {W : Nat → Nat}
    (how : ∀ j, j < 120 → ow j = nI (W j) ∧ W j < 6) (k : J (nI (y + 1)) t p dx dy wd hg sh lv cx cy ow (ds_fl (12 * (y + 1)) (ds_h cx cy fx fy fo fc W) cl) fx fy fo fc) : ∀ m x n, x + m = 12 → m < n →
    wX_carryClean_10 post J (nI y) T B n (nI x) t p dx dy wd hg sh lv cx cy ow (ds_fl (12 * y + x) (ds_h cx cy fx fy fo fc W) cl) fx fy fo fc := by
  intro m
  induction m with
  | zero =>
    intro x n hx hn
    obtain ⟨n, rfl⟩ : ∃ n', n = n' + 1 := ⟨n - 1, by omega⟩
    have e : x = 12 := by omega
    subst e
    exact br_t (by decide) (nm_r (nI_1 y) k)
  | succ m ih =>
    intro x n hx hn
    obtain ⟨n, rfl⟩ : ∃ n', n = n' + 1 := ⟨n - 1, by omega⟩
    have hv : vp_in (nI (12 * y + x)) 120 := vp_in_nI (by omega) (by decide)
    have e := nI_clamp (n := 12 * y + x) (by omega)
    have ho := how (12 * y + x) (by omega)
    have eg : vp_nar .boolean (ds_k (nI x - cx (W (12 * y + x)) + fx (W (12 * y + x))) (nI y - cy (W (12 * y + x)) + fy (W (12 * y + x))) fo fc (W (12 * y + x))) = ds_h cx cy fx fy fo fc W (12 * y + x) := by
      unfold ds_h
      rw [show (12 * y + x) % 12 = x by omega, show (12 * y + x) / 12 = y by omega]
    refine br_f (nI_ge (b := 12) (by omega) (by decide)) (xl_pix ⟨hv, ?_⟩)
    rw [e, ho.1]
    exact xl_car ho.2 ⟨hv, nm_r (ds_fl_s eg) (nm_r (nI_1 x) (ih (x + 1) n (by omega) (by omega)))⟩
theorem xl_cc2 {post : SX → Prop} {W : Nat → Nat} (how : ∀ j, j < 120 → ow j = nI (W j) ∧ W j < 6) (k : post (T, B, t, p, dx, dy, wd, hg, sh, lv, cx, cy, ow, ds_fl 120 (ds_h cx cy fx fy fo fc W) cl, fx, fy, fo, fc)) : ∀ m y n, y + m = 10 → m < n →
    wX_carryClean_2 post T B n (nI y) t p dx dy wd hg sh lv cx cy ow (ds_fl (12 * y) (ds_h cx cy fx fy fo fc W) cl) fx fy fo fc := by
  intro m
  induction m with
  | zero =>
    intro y n hy hn
    obtain ⟨n, rfl⟩ : ∃ n', n = n' + 1 := ⟨n - 1, by omega⟩
    have e : y = 10 := by omega
    subst e
    exact br_t (by decide) k
  | succ m ih =>
    intro y n hy hn
    obtain ⟨n, rfl⟩ : ∃ n', n = n' + 1 := ⟨n - 1, by omega⟩
    exact br_f (nI_ge (b := 10) (by omega) (by decide)) ⟨13, xl_cc10 (by omega) how (ih (y + 1) n (by omega) (by omega)) 12 0 13 (by omega) (by omega)⟩
theorem xl_carry {post : SX → Prop} {W : Nat → Nat} (how : ∀ j, j < 120 → ow j = nI (W j) ∧ W j < 6) (k : post (T, B, t, p, dx, dy, wd, hg, sh, lv, cx, cy, ow, ds_fl 120 (ds_h cx cy fx fy fo fc W) cl, fx, fy, fo, fc)) : wpX_carryClean post (T, B, t, p, dx, dy, wd, hg, sh, lv, cx, cy, ow, cl, fx, fy, fo, fc) := by
  have h := xl_cc2 how k 10 0 11 (by omega) (by omega)
  rw [show 12 * 0 = 0 from rfl, ds_fl_0] at h
  exact ⟨11, h⟩
end
