/-! X: settle as a whole -/
def ds_XC (t p dx dy wd hg sh lv cx cy ow : Nat → Int32) : Prop :=
  (∀ c, c < 6 → t c ≠ 0 → cx c = ds_cs dx p 5 c 0 ∧ cy c = ds_cs dy p 5 c 0) ∧ (∀ j, j < 120 → ow j = nI (ds_O t p dx dy wd hg sh lv (j % 12) (j / 12)))
def ds_NC (t0 p0 dx0 dy0 : Nat → Int32) (O0 : Nat → Nat → Nat) (p dx dy : Nat → Int32) (O : Nat → Nat → Nat) (cl : Nat → Int32) : Nat → Int32 := fun j =>
  vp_nar .boolean (if t0 (O (j % 12) (j / 12)) = 0 then 0 else
    ds_k (nI (j % 12) - ds_cs dx p 5 (O (j % 12) (j / 12)) 0 + ds_cs dx0 p0 5 (O (j % 12) (j / 12)) 0) (nI (j / 12) - ds_cs dy p 5 (O (j % 12) (j / 12)) 0 + ds_cs dy0 p0 5 (O (j % 12) (j / 12)) 0)
      (fun i => nI (O0 (i % 12) (i / 12))) (fun i => vp_nar .boolean (cl i)) (O (j % 12) (j / 12)))
theorem ds_fl_c {n : Nat} {g g' a : Nat → Int32} (h : ∀ j, j < n → g j = g' j) : ds_fl n g a = ds_fl n g' a := by
  funext j
  show (if j < n then g j else a j) = (if j < n then g' j else a j)
  by_cases l : j < n
  · rw [if_pos l, if_pos l]; exact h j l
  · rw [if_neg l, if_neg l]
section
variable {T B : Int32} {t p dx dy wd hg sh lv cx cy ow cl fx fy fo fc : Nat → Int32} {t0 p0 dx0 dy0 wd0 hg0 sh0 lv0 : Nat → Int32} {dp0 dp : Nat → Nat}
theorem ds_ncx {d0 d c : Nat → Int32} (H0 : ds_T t0 p0 dp0) (C0 : ∀ c', c' < 6 → t0 c' ≠ 0 → c c' = ds_cs d0 p0 5 c' 0) {w : Nat} (hw : w < 6) (h : t w ≠ 0) : ds_fl 6 (ds_nc t d p c) c w = ds_cs d p 5 w 0 := by
  rw [ds_fl_lt hw]
  by_cases z : w = 0
  · subst z
    have e : ds_nc t d p c 0 = c 0 := if_neg (fun q => q.1 rfl)
    rw [e, C0 0 (by omega) H0.2.1, ds_cs_0, ds_cs_0]
  · exact if_pos ⟨z, h⟩
theorem ds_hN (H0 : ds_T t0 p0 dp0) (C0 : ds_XC t0 p0 dx0 dy0 wd0 hg0 sh0 lv0 cx cy ow) (H : ds_T t p dp) : ∀ j, j < 120 →
    ds_h (ds_fl 6 (ds_nc t dx p cx) cx) (ds_fl 6 (ds_nc t dy p cy) cy) (ds_fl 6 cx fx) (ds_fl 6 cy fy) (ds_fl 120 ow fo) (ds_fl 120 (fun j => vp_nar .boolean (cl j)) fc) (fun j => ds_O t p dx dy wd hg sh lv (j % 12) (j / 12)) j
     = ds_NC t0 p0 dx0 dy0 (ds_O t0 p0 dx0 dy0 wd0 hg0 sh0 lv0) p dx dy (ds_O t p dx dy wd hg sh lv) cl j := by
  intro j hj
  have hO := ds_O_in (dx := dx) (dy := dy) (wd := wd) (hg := hg) (sh := sh) (lv := lv) (x := j % 12) (y := j / 12) H
  unfold ds_h ds_NC
  dsimp only
  generalize hw : ds_O t p dx dy wd hg sh lv (j % 12) (j / 12) = w at hO
  rw [ds_ncx H0 (fun c' h1 h2 => (C0.1 c' h1 h2).1) hO.1 hO.2, ds_ncx H0 (fun c' h1 h2 => (C0.1 c' h1 h2).2) hO.1 hO.2, ds_fl_lt hO.1, ds_fl_lt hO.1]
  by_cases z : t0 w = 0
  · rw [if_pos z, ds_k_0]
    intro i hi
    rw [ds_fl_lt hi, C0.2 i hi]
    have hI := ds_O_in (dx := dx0) (dy := dy0) (wd := wd0) (hg := hg0) (sh := sh0) (lv := lv0) (x := i % 12) (y := i / 12) H0
    intro q
    rw [nI_eq (by omega) (by omega)] at q
    rw [q] at hI
    exact hI.2 z
  · rw [if_neg z]
    have e := C0.1 w hO.1 z
    rw [← e.1, ← e.2]
    congr 1
    exact ds_k_c (fun i hi => ⟨by rw [ds_fl_lt hi, C0.2 i hi], by rw [ds_fl_lt hi]⟩)
theorem xl_settle {post : SX → Prop} (H0 : ds_T t0 p0 dp0) (C0 : ds_XC t0 p0 dx0 dy0 wd0 hg0 sh0 lv0 cx cy ow) (H : ds_T t p dp) (hp : ds_P p)
    (k : ∀ cx' cy' ow' fx' fy' fo' fc', ds_XC t p dx dy wd hg sh lv cx' cy' ow' → post (T, B, t, p, dx, dy, wd, hg, sh, lv, cx', cy', ow', ds_fl 120 (ds_NC t0 p0 dx0 dy0 (ds_O t0 p0 dx0 dy0 wd0 hg0 sh0 lv0) p dx dy (ds_O t p dx dy wd hg sh lv) cl) cl, fx', fy', fo', fc')) : wpX_settle post (T, B, t, p, dx, dy, wd, hg, sh, lv, cx, cy, ow, cl, fx, fy, fo, fc) := by
  have hcx : ∀ c, c < 6 → t c ≠ 0 → ds_fl 6 (ds_nc t dx p cx) cx c = ds_cs dx p 5 c 0 ∧ ds_fl 6 (ds_nc t dy p cy) cy c = ds_cs dy p 5 c 0 :=
    fun c hc h => ⟨ds_ncx H0 (fun c' h1 h2 => (C0.1 c' h1 h2).1) hc h, ds_ncx H0 (fun c' h1 h2 => (C0.1 c' h1 h2).2) hc h⟩
  have how : ∀ j, j < 120 → ds_fl 120 (ds_g t p dx dy wd hg sh lv) ow j = nI (ds_O t p dx dy wd hg sh lv (j % 12) (j / 12)) ∧ ds_O t p dx dy wd hg sh lv (j % 12) (j / 12) < 6 :=
    fun j hj => ⟨ds_fl_lt hj, (ds_O_in H).1⟩
  have k' := k _ _ _ (ds_fl 6 cx fx) (ds_fl 6 cy fy) (ds_fl 120 ow fo) (ds_fl 120 (fun j => vp_nar .boolean (cl j)) fc) ⟨hcx, fun j hj => (how j hj).1⟩
  rw [← ds_fl_c (ds_hN (fx := fx) (fy := fy) (fo := fo) (fc := fc) (cl := cl) (wd := wd) (hg := hg) (sh := sh) (lv := lv) H0 C0 H)] at k'
  unfold wpX_settle
  refine xl_keep ?_
  refine xl_places hp ?_
  refine xl_assign hcx ?_
  refine xl_carry (W := fun j => ds_O t p dx dy wd hg sh lv (j % 12) (j / 12)) how ?_
  exact k'
end
