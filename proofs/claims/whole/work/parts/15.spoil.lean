/-! spoil -/
theorem xl_spn {post : Int32 → Prop} {z : Int32} (k1 : ¬ z < 0 ∧ ¬ 15 < z → post 1) (k0 : ¬ (¬ z < 0 ∧ ¬ 15 < z) → post 0) : wpX_isSpoilNumber post z :=
  br_c (fun h => k0 (fun q => q.1 h)) (fun h1 => br_c (fun h => k0 (fun q => q.2 h)) (fun h2 => k1 ⟨h1, h2⟩))
theorem ds_i12 : (12 : Int32).toInt = 12 := by decide
theorem ds_i10 : (10 : Int32).toInt = 10 := by decide
theorem ds_onI {A D : Int32} : (0 ≤ A ∧ A < 12 ∧ 0 ≤ D ∧ D < 10) ↔ (0 ≤ A.toInt ∧ A.toInt < 12 ∧ 0 ≤ D.toInt ∧ D.toInt < 10) := by
  simp only [Int32.le_iff_toInt_le, Int32.lt_iff_toInt_lt, ds_i0, ds_i12, ds_i10]
section
variable {T B : Int32} {t p dx dy wd hg sh lv cx cy ow cl fx fy fo fc : Nat → Int32}
theorem xl_spx {post : Int32 → SX → Prop} {w A D : Int32} (k0 : ¬ (0 ≤ A ∧ A < 12 ∧ 0 ≤ D ∧ D < 10) → post 0 (T, B, t, p, dx, dy, wd, hg, sh, lv, cx, cy, ow, cl, fx, fy, fo, fc))
    (kn : ∀ a b : Nat, a < 12 → b < 10 → A = nI a → D = nI b → ¬ (ow (12 * b + a) = w ∧ cl (12 * b + a) ≠ 0) → post 0 (T, B, t, p, dx, dy, wd, hg, sh, lv, cx, cy, ow, cl, fx, fy, fo, fc))
    (ky : ∀ a b : Nat, a < 12 → b < 10 → A = nI a → D = nI b → ow (12 * b + a) = w → cl (12 * b + a) ≠ 0 → post 1 (T, B, t, p, dx, dy, wd, hg, sh, lv, cx, cy, ow, upd cl (12 * b + a) 0, fx, fy, fo, fc)) : wpX_spoilPixel post (T, B, t, p, dx, dy, wd, hg, sh, lv, cx, cy, ow, cl, fx, fy, fo, fc) w A D := by
  unfold wpX_spoilPixel
  refine xl_on (fun z => br_f (by decide) ?_) (fun z => br_t rfl (k0 z))
  obtain ⟨a, b, ha, hb, rfl, rfl⟩ := ds_k_ix z.1 z.2.1 z.2.2.1 z.2.2.2
  have hq : vp_in (nI (12 * b + a)) 120 := vp_in_nI (by omega) (by decide)
  have e := nI_clamp (n := 12 * b + a) (by omega)
  refine xl_pix ⟨hq, ?_⟩
  rw [e]
  exact br_c (fun o => ⟨hq, br_c (fun c => kn a b ha hb rfl rfl (fun q => q.2 c)) (fun c => ⟨hq, nm_r (e' := upd cl (12 * b + a) 0) (by rw [ds_nar0]) (ky a b ha hb rfl rfl o c)⟩)⟩) (fun o => kn a b ha hb rfl rfl (fun q => o q.1))
theorem xl_sp81 {post : Int32 → SX → Prop} {J : Int32 → Int32 → Int32 → Int32 → (Nat → Int32) → (Nat → Int32) → (Nat → Int32) → (Nat → Int32) → (Nat → Int32) → (Nat → Int32) → (Nat → Int32) → (Nat → Int32) → (Nat → Int32) → (Nat → Int32) → (Nat → Int32) → (Nat → Int32) → (Nat → Int32) → (Nat → Int32) → (Nat → Int32) → (Nat → Int32) → Prop} {z x6 X5 Y5 : Int32} {L U : Int} {W r N : Nat}
    (hL : X5.toInt = L) (hU : Y5.toInt = U) (L1 : -1000 ≤ L) (L2 : L ≤ 1000) (U1 : -1000 ≤ U) (U2 : U ≤ 1000) (hW : W ≤ 15) (hr : r ≤ 15)
    (K : ∀ s, s + ds_ct (ds_nz (ds_sp ow z (ds_bf L U W r W) cl)) 120 = N → J (nI s) (nI (r + 1)) T B t p dx dy wd hg sh lv cx cy ow (ds_sp ow z (ds_bf L U W r W) cl) fx fy fo fc) : ∀ m c n s, c + m = W → m < n → s + ds_ct (ds_nz (ds_sp ow z (ds_bf L U W r c) cl)) 120 = N →
    wX_spoil_81 post J z (nI W) x6 X5 Y5 (nI r) n (nI s) (nI c) T B t p dx dy wd hg sh lv cx cy ow (ds_sp ow z (ds_bf L U W r c) cl) fx fy fo fc := by
  intro m
  induction m with
  | zero =>
    intro c n s hc hn hs
    obtain ⟨n, rfl⟩ : ∃ n', n = n' + 1 := ⟨n - 1, by omega⟩
    have e : c = W := by omega
    subst e
    exact br_t (nI_le (Nat.le_refl c) (by omega)) (nm_r (nI_1 r) (K s hs))
  | succ m ih =>
    intro c n s hc hn hs
    obtain ⟨n, rfl⟩ : ∃ n', n = n' + 1 := ⟨n - 1, by omega⟩
    have ic := nI_toInt (n := c) (by omega)
    have ir := nI_toInt (n := r) (by omega)
    have eA : (X5 + nI c).toInt = L + (c : Int) := by rw [ds_add (by omega) (by omega), hL, ic]
    have eD : (Y5 + nI r).toInt = U + (r : Int) := by rw [ds_add (by omega) (by omega), hU, ir]
    have no : ds_sp ow z (ds_bf L U W r c) cl = ds_sp ow z (ds_bf L U W r (c + 1)) cl → wX_spoil_81 post J z (nI W) x6 X5 Y5 (nI r) n (nI s) (nI (c + 1)) T B t p dx dy wd hg sh lv cx cy ow (ds_sp ow z (ds_bf L U W r c) cl) fx fy fo fc := by
      intro q
      rw [q] at hs ⊢
      exact ih (c + 1) n s (by omega) (by omega) hs
    refine br_f (nI_ge (by omega) (by omega)) (xl_spx (fun h => br_t rfl (nm_r (nI_1 c) (no ?_))) (fun a b ha hb ea eb h => br_t rfl (nm_r (nI_1 c) (no ?_))) (fun a b ha hb ea eb o h => br_f (by decide) (nm_r (nI_1 s) (nm_r (nI_1 c) ?_))))
    · rw [ds_onI, eA, eD] at h
      exact ds_sp_k (fun j hj _ => Or.inl (ds_bf_off h j hj))
    · have ia : (a : Int) = L + (c : Int) := by rw [← eA, ea]; exact (nI_toInt (by omega)).symm
      have ib : (b : Int) = U + (r : Int) := by rw [← eD, eb]; exact (nI_toInt (by omega)).symm
      refine ds_sp_k (fun j hj ho => ?_)
      by_cases e : j = 12 * b + a
      · subst e
        refine Or.inr (Classical.byContradiction fun y => h ⟨ho, ?_⟩)
        rw [ds_sp_n (ds_bf_f ia ib ha)]
        exact y
      · exact Or.inl (ds_bf_ne ia ib j e).symm
    · have ia : (a : Int) = L + (c : Int) := by rw [← eA, ea]; exact (nI_toInt (by omega)).symm
      have ib : (b : Int) = U + (r : Int) := by rw [← eD, eb]; exact (nI_toInt (by omega)).symm
      have q : upd (ds_sp ow z (ds_bf L U W r c) cl) (12 * b + a) 0 = ds_sp ow z (ds_bf L U W r (c + 1)) cl := ds_sp_u (by omega) o (ds_bf_t ia ib ha (by omega)) (fun j _ e => ds_bf_ne ia ib j e)
      have d := ds_nz_d (n := 120) (show 12 * b + a < 120 by omega) h
      rw [q] at d ⊢
      exact ih (c + 1) n (s + 1) (by omega) (by omega) (by omega)
theorem xl_sp71 {post : Int32 → SX → Prop} {z X5 Y5 : Int32} {L U : Int} {W V N : Nat}
    (hL : X5.toInt = L) (hU : Y5.toInt = U) (L1 : -1000 ≤ L) (L2 : L ≤ 1000) (U1 : -1000 ≤ U) (U2 : U ≤ 1000) (hW : W ≤ 15) (hV : V ≤ 15)
    (K : ∀ s, s + ds_ct (ds_nz (ds_sp ow z (ds_re L U W V) cl)) 120 = N → post (nI s) (T, B, t, p, dx, dy, wd, hg, sh, lv, cx, cy, ow, ds_sp ow z (ds_re L U W V) cl, fx, fy, fo, fc)) : ∀ m r n s, r + m = V → m < n → s + ds_ct (ds_nz (ds_sp ow z (ds_bf L U W r 0) cl)) 120 = N →
    wX_spoil_71 post z (nI W) (nI V) X5 Y5 n (nI s) (nI r) T B t p dx dy wd hg sh lv cx cy ow (ds_sp ow z (ds_bf L U W r 0) cl) fx fy fo fc := by
  intro m
  induction m with
  | zero =>
    intro r n s hr hn hs
    obtain ⟨n, rfl⟩ : ∃ n', n = n' + 1 := ⟨n - 1, by omega⟩
    have e : r = V := by omega
    subst e
    have q : ds_bf L U W r 0 = ds_re L U W r := funext ds_bf_e
    rw [q] at hs ⊢
    exact br_t (nI_le (Nat.le_refl r) (by omega)) (K s hs)
  | succ m ih =>
    intro r n s hr hn hs
    obtain ⟨n, rfl⟩ : ∃ n', n = n' + 1 := ⟨n - 1, by omega⟩
    have q : ds_bf L U W r W = ds_bf L U W (r + 1) 0 := funext ds_bf_r
    refine br_f (nI_ge (by omega) (by omega)) ⟨W + 1, ?_⟩
    refine xl_sp81 hL hU L1 L2 U1 U2 hW (by omega) (fun s' hs' => ?_) W 0 (W + 1) s (by omega) (by omega) hs
    rw [q] at hs' ⊢
    exact ih (r + 1) n s' (by omega) (by omega) hs'
end
def ds_yb (L U : Int) (W V i : Nat) (j : Nat) : Bool := decide (j < i) && ds_re L U W V j
section
variable {T B : Int32} {t p dx dy we hi so lv cl wt wx wy wo wc : Nat → Int32} {wd hg sh : Nat → Int32} {dp : Nat → Nat}
theorem yl_sp67 {post : Int32 → SY → Prop} {ow : Nat → Int32} {z X5 Y5 : Int32} {L U : Int} {W V q N : Nat} (D : ds_V t p dx dy wd hg sh we hi so dp) (how : ∀ j, j < 120 → ow j = nI (ds_O t p dx dy wd hg sh lv (j % 12) (j / 12)))
    (hL : X5.toInt = L) (hU : Y5.toInt = U) (L1 : -1000 ≤ L) (L2 : L ≤ 1000) (U1 : -1000 ≤ U) (U2 : U ≤ 1000) (hq : q < 256) (hW : W = q / 16) (hV : V = q % 16)
    (K : ∀ s, s + ds_ct (ds_nz (ds_sp ow z (ds_re L U W V) cl)) 120 = N → post (nI s) (T, B, t, p, dx, dy, we, hi, so, lv, ds_sp ow z (ds_re L U W V) cl, wt, wx, wy, wo, wc)) : ∀ m i n s, i + m = 120 → m < n → s + ds_ct (ds_nz (ds_sp ow z (ds_yb L U W V i) cl)) 120 = N →
    wY_spoil_67 post z (nI q) X5 Y5 T B n (nI s) (nI i) t p dx dy we hi so lv (ds_sp ow z (ds_yb L U W V i) cl) wt wx wy wo wc := by
  intro m
  induction m with
  | zero =>
    intro i n s h_i hn hs
    obtain ⟨n, rfl⟩ : ∃ n', n = n' + 1 := ⟨n - 1, by omega⟩
    have e : i = 120 := by omega
    subst e
    have g : ds_sp ow z (ds_yb L U W V 120) cl = ds_sp ow z (ds_re L U W V) cl := ds_sp_k (fun j hj _ => Or.inl (by unfold ds_yb; rw [decide_eq_true hj, Bool.true_and]))
    rw [g] at hs ⊢
    exact br_t (by decide) (K s hs)
  | succ m ih =>
    intro i n s h_i hn hs
    obtain ⟨n, rfl⟩ : ∃ n', n = n' + 1 := ⟨n - 1, by omega⟩
    have hv : vp_in (nI i) 120 := vp_in_nI (by omega) (by decide)
    have e := nI_clamp (n := i) (by omega)
    have y0 : ds_yb L U W V i i = false := by unfold ds_yb; rw [decide_eq_false (Nat.lt_irrefl i), Bool.false_and]
    have y1 : ds_yb L U W V (i + 1) i = ds_re L U W V i := by unfold ds_yb; rw [decide_eq_true (Nat.lt_succ_self i), Bool.true_and]
    have yn : ∀ j, j ≠ i → ds_yb L U W V (i + 1) j = ds_yb L U W V i j := by
      intro j hj
      unfold ds_yb
      rw [show decide (j < i + 1) = decide (j < i) from decide_eq_decide.mpr (by omega)]
    have no : (ow i = z → ds_re L U W V i = false ∨ cl i = 0) → wY_spoil_67 post z (nI q) X5 Y5 T B n (nI s) (nI (i + 1)) t p dx dy we hi so lv (ds_sp ow z (ds_yb L U W V i) cl) wt wx wy wo wc := by
      intro h
      have g : ds_sp ow z (ds_yb L U W V i) cl = ds_sp ow z (ds_yb L U W V (i + 1)) cl := by
        refine ds_sp_k (fun j hj ho => ?_)
        by_cases ej : j = i
        · subst ej
          exact (h ho).imp (fun f => by rw [y0, y1, f]) id
        · exact Or.inl (yn j ej).symm
      rw [g] at hs ⊢
      exact ih (i + 1) n s (by omega) (by omega) hs
    have out : ds_re L U W V i = false → wY_spoil_130 post (wY_spoil_67 post z (nI q) X5 Y5 T B n) z (nI q) X5 Y5 (nI s) (nI i) T B t p dx dy we hi so lv (ds_sp ow z (ds_yb L U W V i) cl) wt wx wy wo wc := by
      intro f
      unfold wY_spoil_130 wY_spoil_131
      exact br_t rfl (nm_r (nI_1 i) (no (fun _ => Or.inl f)))
    have q1 : nI q / 16 = nI W := by rw [hW]; exact pk_div (d := 16) (by omega) (by omega) (by omega)
    have q2 : nI q - nI q / 16 * 16 = nI V := by rw [hV]; exact pk_rem (d := 16) (by omega) (by omega) (by omega)
    have im := nI_toInt (n := i % 12) (by omega)
    have id' := nI_toInt (n := i / 12) (by omega)
    have iW := nI_toInt (n := W) (by omega)
    have iV := nI_toInt (n := V) (by omega)
    have eW : (X5 + nI W).toInt = L + (W : Int) := by rw [ds_add (by omega) (by omega), hL, iW]
    have eV : (Y5 + nI V).toInt = U + (V : Int) := by rw [ds_add (by omega) (by omega), hU, iV]
    refine br_f (nI_ge (b := 120) (by omega) (by decide)) ⟨by decide, ?_⟩
    rw [q2, q1, ds_rm (by omega), ds_dv (by omega)]
    refine br_c (fun h => out (decide_eq_false ?_)) (fun h1 => ⟨by decide, by decide, br_c (fun h => out (decide_eq_false ?_)) (fun h2 => ⟨by decide, br_c (fun h => out (decide_eq_false ?_)) (fun h3 => ⟨by decide, by decide, br_c (fun h => out (decide_eq_false ?_)) (fun h4 => ?_)⟩)⟩)⟩)
    · rw [Int32.lt_iff_toInt_lt, im, hL] at h; omega
    · rw [Int32.le_iff_toInt_le, im, eW] at h; omega
    · rw [Int32.lt_iff_toInt_lt, id', hU] at h; omega
    · rw [Int32.le_iff_toInt_le, id', eV] at h; omega
    · rw [Int32.lt_iff_toInt_lt, im, hL] at h1
      rw [Int32.le_iff_toInt_le, im, eW] at h2
      rw [Int32.lt_iff_toInt_lt, id', hU] at h3
      rw [Int32.le_iff_toInt_le, id', eV] at h4
      have f : ds_re L U W V i = true := decide_eq_true (by omega)
      unfold wY_spoil_131
      refine br_f (by decide) ⟨hv, ?_⟩
      rw [e]
      refine br_c (fun c => nm_r (nI_1 i) (no (fun _ => Or.inr (by rw [ds_sp_n y0] at c; exact c)))) (fun c => ⟨by decide, by decide, ?_⟩)
      rw [ds_rm (by omega), ds_dv (by omega)]
      refine yl_owner D (by omega) (by omega) ?_
      rw [← how i (by omega)]
      refine br_c (fun o => ⟨hv, ?_⟩) (fun o => nm_r (nI_1 i) (no (fun o' => absurd o' o)))
      have g : upd (ds_sp ow z (ds_yb L U W V i) cl) i 0 = ds_sp ow z (ds_yb L U W V (i + 1)) cl := ds_sp_u (by omega) o (by rw [y1]; exact f) (fun j _ ej => yn j ej)
      have d := ds_nz_d (n := 120) (show i < 120 by omega) c
      rw [g] at d
      refine nm_r (e' := ds_sp ow z (ds_yb L U W V (i + 1)) cl) (by rw [ds_nar0]; exact g) (nm_r (nI_1 s) (nm_r (nI_1 i) ?_))
      exact ih (i + 1) n (s + 1) (by omega) (by omega) (by omega)
end
theorem i_vc_spoil {k : Nat} {u : SX} {v : SY} (I : i_Rel k u v) (hk : k + 5 ≤ 2560) (v1 : Int32) (v2 : Int32) (v3 : Int32) (v4 : Int32) : wpX_spoil (fun r u' => wpY_spoil (fun r' v' => r' = r ∧ i_Rel (k + 5) u' v') v v1 v2 v3 v4) u v1 v2 v3 v4 := by
  obtain ⟨T, B, t, p, dx, dy, wd, hg, sh, lv, cx, cy, ow, cl, fx, fy, fo, fc, we, hi, so, wt, wx, wy, wo, wc, dp, rfl, rfl, V, C⟩ := I
  unfold wpX_spoil
  refine nm_e (nm_e ?_)
  by_cases h : ∃ a : Nat, a < 6 ∧ v1 = nI a ∧ t a ≠ 0
  · obtain ⟨a, ha, rfl, ta⟩ := h
    have hv : vp_in (nI a) 6 := vp_in_nI ha (by decide)
    have e := nI_clamp (n := a) (by omega)
    refine xl_there_y ha ta (br_f (by decide) ?_)
    refine xl_spn (fun z1 => br_f (by decide) ?_) (fun z1 => br_t rfl ?_)
    · refine xl_spn (fun z2 => br_f (by decide) ?_) (fun z2 => br_t rfl ?_)
      · refine xl_spn (fun z3 => br_f (by decide) ?_) (fun z3 => br_t rfl ?_)
        · obtain ⟨q, hq, rfl⟩ := ds_w1 z3.1 (Int32.not_lt.mp z3.2)
          have c5 := C.1 a ha ta
          have bx := ds_cs_5 V.2.2.1 V.2.1 ha
          have b_y := ds_cs_5 V.2.2.2.1 V.2.1 ha
          have z1' := z1
          have z2' := z2
          rw [Int32.lt_iff_toInt_lt, Int32.lt_iff_toInt_lt, ds_i0, ds_15] at z1' z2'
          have eL : (ds_cs dx p 5 a 0 + v2).toInt = (ds_cs dx p 5 a 0).toInt + v2.toInt := ds_add (by omega) (by omega)
          have eU : (ds_cs dy p 5 a 0 + v3).toInt = (ds_cs dy p 5 a 0).toInt + v3.toInt := ds_add (by omega) (by omega)
          refine ⟨hv, nm_r (e' := ds_cs dx p 5 a 0 + v2) (by rw [e, c5.1]) ⟨hv, nm_r (e' := ds_cs dy p 5 a 0 + v3) (by rw [e, c5.2]) ⟨q % 16 + 1, ?_⟩⟩⟩
          rw [ds_w2 hq, ds_w3 hq]
          have b0 : ds_sp ow (nI a) (ds_bf ((ds_cs dx p 5 a 0).toInt + v2.toInt) ((ds_cs dy p 5 a 0).toInt + v3.toInt) (q / 16) 0 0) cl = cl := ds_sp_0 (fun j _ => ds_bf_0 j)
          have hX := fun post N K hs => xl_sp71 (post := post) (T := T) (B := B) (t := t) (p := p) (dx := dx) (dy := dy) (wd := wd) (hg := hg) (sh := sh) (lv := lv) (cx := cx) (cy := cy) (ow := ow) (cl := cl) (fx := fx) (fy := fy) (fo := fo) (fc := fc) (z := nI a) (W := q / 16) (V := q % 16) (N := N) eL eU (by omega) (by omega) (by omega) (by omega) (by omega) (by omega) K (q % 16) 0 (q % 16 + 1) 0 (by omega) (by omega) hs
          rw [b0] at hX
          refine hX _ (ds_ct (ds_nz cl) 120) (fun s hs => ?_) (by omega)
          unfold wpY_spoil
          refine yl_miss_n ha ta (br_t rfl ?_)
          refine br_f z1.1 (br_f z1.2 (br_f z2.1 (br_f z2.2 (br_f (nI_pos (by omega)) (br_t (nI_le (b := 255) (by omega) (by decide)) ?_)))))
          refine yl_cornerX V.2.1 ha (nm_r (e' := ds_cs dx p 5 a 0 + v2) (by rw [ds_cs_6 V.1 V.2.1 ha ta]) ?_)
          refine yl_cornerY V.2.1 ha (nm_r (e' := ds_cs dy p 5 a 0 + v3) (by rw [ds_cs_6 V.1 V.2.1 ha ta]) ⟨121, ?_⟩)
          have y0 : ds_sp ow (nI a) (ds_yb ((ds_cs dx p 5 a 0).toInt + v2.toInt) ((ds_cs dy p 5 a 0).toInt + v3.toInt) (q / 16) (q % 16) 0) cl = cl := ds_sp_0 (fun j _ => by unfold ds_yb; rw [decide_eq_false (Nat.not_lt_zero j), Bool.false_and])
          have hY := fun post N K hs => yl_sp67 (post := post) (T := T) (B := B) (cl := cl) (wt := wt) (wx := wx) (wy := wy) (wo := wo) (wc := wc) (ow := ow) (z := nI a) (W := q / 16) (V := q % 16) (q := q) (N := N) V C.2 eL eU (by omega) (by omega) (by omega) (by omega) hq rfl rfl K 120 0 121 0 (by omega) (by omega) hs
          rw [y0] at hY
          refine hY _ (ds_ct (ds_nz cl) 120) (fun s' hs' => ?_) (by omega)
          refine ⟨?_, ds_mk V C⟩
          rw [show s' = s by omega]
        · unfold wpY_spoil
          refine yl_miss_n ha ta (br_t rfl ?_)
          refine br_f z1.1 (br_f z1.2 (br_f z2.1 (br_f z2.2 (br_c (fun _ => ⟨rfl, ds_mk V C⟩) (fun q0 => br_c (fun q1 => ?_) (fun _ => ⟨rfl, ds_mk V C⟩))))))
          obtain ⟨q, hq, rfl⟩ := nI_of q0
          have q2 := (nI_leI (a := q) (b := 255) hq (by decide)).mp q1
          refine absurd ?_ z3
          rw [ds_w2 (by omega)]
          exact ⟨nI_pos (by omega), nI_nlt (a := 15) (by omega) (by decide)⟩
      · unfold wpY_spoil
        refine yl_miss_n ha ta (br_t rfl ?_)
        exact br_f z1.1 (br_f z1.2 (br_c (fun _ => ⟨rfl, ds_mk V C⟩) (fun q1 => br_c (fun _ => ⟨rfl, ds_mk V C⟩) (fun q2 => absurd ⟨q1, q2⟩ z2))))
    · unfold wpY_spoil
      refine yl_miss_n ha ta (br_t rfl ?_)
      exact br_c (fun _ => ⟨rfl, ds_mk V C⟩) (fun q1 => br_c (fun _ => ⟨rfl, ds_mk V C⟩) (fun q2 => absurd ⟨q1, q2⟩ z1))
  · refine xl_there_n h (br_t rfl ?_)
    unfold wpY_spoil
    exact yl_miss_y h (br_f (by decide) ⟨rfl, ds_mk V C⟩)
