/-! within, and the removal of what lies within -/
def ds_wi (p : Nat → Int32) (a : Nat) : Nat → Nat → Bool
  | 0, _ => false
  | n + 1, b => if b = 0 then false else if b = a then true else ds_wi p a n (ds_up p b)
section
variable {t p : Nat → Int32} {dp : Nat → Nat} {a : Nat}
theorem ds_wi_0 {n : Nat} : ds_wi p a n 0 = false := by
  cases n with
  | zero => rfl
  | succ n => exact if_pos rfl
theorem ds_wi_a {n : Nat} (h : a ≠ 0) : ds_wi p a (n + 1) a = true := by
  show (if a = 0 then false else if a = a then true else ds_wi p a n (ds_up p a)) = true
  rw [if_neg h, if_pos rfl]
theorem ds_wi_n {n b : Nat} (h : b ≠ 0) (h' : b ≠ a) : ds_wi p a (n + 1) b = ds_wi p a n (ds_up p b) := by
  show (if b = 0 then false else if b = a then true else ds_wi p a n (ds_up p b)) = _
  rw [if_neg h, if_neg h']
theorem ds_wi_s (H : ds_T t p dp) (hp : ds_P p) (a0 : a ≠ 0) : ∀ n b, b < 6 → t b ≠ 0 → dp b ≤ n → ds_wi p a (n + 1) b = ds_wi p a n b := by
  intro n
  induction n with
  | zero =>
    intro b hb h hd
    by_cases z : b = 0
    · subst z; rw [ds_wi_0, ds_wi_0]
    · have := (H.2.2 b (by omega) hb h).1; omega
  | succ n ih =>
    intro b hb h hd
    by_cases z : b = 0
    · subst z; rw [ds_wi_0, ds_wi_0]
    · by_cases y : b = a
      · subst y; rw [ds_wi_a a0, ds_wi_a a0]
      · have q := H.2.2 b (by omega) hb h
        rw [ds_wi_n z y, ds_wi_n z y]
        exact ih _ (hp b hb).1 q.2.2 (by omega)
theorem ds_wi_up (H : ds_T t p dp) (hp : ds_P p) (a0 : a ≠ 0) {b : Nat} (b0 : b ≠ 0) (hb : b < 6) (h : t b ≠ 0) (y : b ≠ a) : ds_wi p a 6 b = ds_wi p a 6 (ds_up p b) := by
  have q := H.2.2 b (by omega) hb h
  rw [ds_wi_n b0 y]
  exact (ds_wi_s H hp a0 5 _ (hp b hb).1 q.2.2 (by omega)).symm
theorem ds_wi_d (H : ds_T t p dp) (hp : ds_P p) : ∀ n b, b < 6 → t b ≠ 0 → ds_wi p a n b = true → b = a ∨ dp a < dp b := by
  intro n
  induction n with
  | zero => intro b _ _ h; exact absurd h Bool.false_ne_true
  | succ n ih =>
    intro b hb h hw
    by_cases z : b = 0
    · subst z; rw [ds_wi_0] at hw; exact absurd hw (by decide)
    · by_cases y : b = a
      · exact Or.inl y
      · have q := H.2.2 b (by omega) hb h
        rw [ds_wi_n z y] at hw
        have r := ih _ (hp b hb).1 q.2.2 hw
        refine Or.inr ?_
        cases r with
        | inl r => rw [r] at q; omega
        | inr r => omega
end
/-- the array 'there' of t when a and what lies within it has gone -/
def ds_E (t p : Nat → Int32) (a : Nat) : Nat → Int32 := fun j => if 1 ≤ j ∧ j < 6 ∧ t j ≠ 0 ∧ ds_wi p a 6 j = true then 0 else t j
/-- after g whole passes, and the windows below w of one more -/
def ds_D (t p : Nat → Int32) (dp : Nat → Nat) (a g w : Nat) (c : Nat → Int32) : Prop :=
  (∀ j, c j = t j ∨ (c j = 0 ∧ 1 ≤ j ∧ j < 6 ∧ ds_wi p a 6 j = true)) ∧
  (∀ j, 1 ≤ j → j < 6 → t j ≠ 0 → ds_wi p a 6 j = true → dp j ≤ dp a + g + (if j < w then 1 else 0) → c j = 0)
section
variable {t p c : Nat → Int32} {dp : Nat → Nat} {a g w : Nat}
theorem ds_D_0 (H : ds_T t p dp) (hp : ds_P p) (a0 : a ≠ 0) (ha : a < 6) : ds_D t p dp a 0 1 (upd t a 0) := by
  refine ⟨fun j => ?_, fun j h1 h6 ht hw hd => ?_⟩
  · by_cases e : j = a
    · subst e; exact Or.inr ⟨pk_us, by omega, ha, ds_wi_a a0⟩
    · exact Or.inl (pk_un e)
  · rw [if_neg (by omega)] at hd
    cases ds_wi_d H hp 6 j h6 ht hw with
    | inl e => subst e; exact pk_us
    | inr e => omega
theorem ds_D_y (H : ds_T t p dp) (hp : ds_P p) (a0 : a ≠ 0) (D : ds_D t p dp a g w c) (w1 : 1 ≤ w) (w6 : w < 6) (h : c w ≠ 0) (h' : c (ds_up p w) = 0) : ds_D t p dp a g (w + 1) (upd c w 0) := by
  have tw : t w ≠ 0 := by
    cases D.1 w with
    | inl e => rw [← e]; exact h
    | inr e => exact absurd e.1 h
  have q := H.2.2 w w1 w6 tw
  have hW : ds_wi p a 6 w = true := by
    by_cases y : w = a
    · subst y; exact ds_wi_a a0
    · rw [ds_wi_up H hp a0 (by omega) w6 tw y]
      cases D.1 (ds_up p w) with
      | inl e => rw [e] at h'; exact absurd h' q.2.2
      | inr e => exact e.2.2.2
  refine ⟨fun j => ?_, fun j h1 h6 ht hw hd => ?_⟩
  · by_cases e : j = w
    · subst e; exact Or.inr ⟨pk_us, w1, w6, hW⟩
    · rw [pk_un e]; exact D.1 j
  · by_cases e : j = w
    · subst e; exact pk_us
    · rw [pk_un e]
      refine D.2 j h1 h6 ht hw ?_
      by_cases l : j < w
      · rw [if_pos l]; rw [if_pos (by omega)] at hd; exact hd
      · rw [if_neg l]; rw [if_neg (by omega)] at hd; exact hd
theorem ds_D_n (H : ds_T t p dp) (hp : ds_P p) (a0 : a ≠ 0) (ca : c a = 0) (D : ds_D t p dp a g w c) (h : ¬ (c w ≠ 0 ∧ c (ds_up p w) = 0)) : ds_D t p dp a g (w + 1) c := by
  refine ⟨D.1, fun j h1 h6 ht hw hd => ?_⟩
  by_cases e : j = w
  · subst e
    rw [if_pos (by omega)] at hd
    by_cases y : j = a
    · rw [y]; exact ca
    · have q := H.2.2 j h1 h6 ht
      have hW := hw
      rw [ds_wi_up H hp a0 (by omega) h6 ht y] at hW
      have u0 : ds_up p j ≠ 0 := by
        intro z; rw [z, ds_wi_0] at hW; exact absurd hW (by decide)
      have cu : c (ds_up p j) = 0 := D.2 _ (by omega) (hp j h6).1 q.2.2 hW (by omega)
      by_cases z : c j = 0
      · exact z
      · exact absurd ⟨z, cu⟩ h
  · refine D.2 j h1 h6 ht hw ?_
    by_cases l : j < w
    · rw [if_pos l]; rw [if_pos (by omega)] at hd; exact hd
    · rw [if_neg l]; rw [if_neg (by omega)] at hd; exact hd
theorem ds_D_a (a0 : a ≠ 0) (ha : a < 6) (ta : t a ≠ 0) (D : ds_D t p dp a g w c) : c a = 0 :=
  D.2 a (by omega) ha ta (ds_wi_a a0) (by omega)
theorem ds_D_s (D : ds_D t p dp a g 6 c) : ds_D t p dp a (g + 1) 1 c := by
  refine ⟨D.1, fun j h1 h6 ht hw hd => D.2 j h1 h6 ht hw ?_⟩
  rw [if_pos h6]; rw [if_neg (by omega)] at hd; omega
theorem ds_D_e (H : ds_T t p dp) (D : ds_D t p dp a 5 1 c) : c = ds_E t p a := by
  funext j
  show c j = (if 1 ≤ j ∧ j < 6 ∧ t j ≠ 0 ∧ ds_wi p a 6 j = true then 0 else t j)
  by_cases z : 1 ≤ j ∧ j < 6 ∧ t j ≠ 0 ∧ ds_wi p a 6 j = true
  · rw [if_pos z]
    exact D.2 j z.1 z.2.1 z.2.2.1 z.2.2.2 (by have := ds_dp5 H z.2.1 z.2.2.1; omega)
  · rw [if_neg z]
    cases D.1 j with
    | inl e => exact e
    | inr e =>
      by_cases y : t j = 0
      · rw [e.1, y]
      · exact absurd ⟨e.2.1, e.2.2.1, y, e.2.2.2⟩ z
theorem ds_E_y {j : Nat} (h1 : 1 ≤ j) (h6 : j < 6) (h : t j ≠ 0) (hw : ds_wi p a 6 j = true) : ds_E t p a j = 0 := if_pos ⟨h1, h6, h, hw⟩
theorem ds_E_n {j : Nat} (h : ¬ (t j ≠ 0 ∧ ds_wi p a 6 j = true)) : ds_E t p a j = t j := if_neg (fun z => h z.2.2)
theorem ds_E_T (H : ds_T t p dp) (hp : ds_P p) (a0 : a ≠ 0) : ds_T (ds_E t p a) p dp := by
  have e0 : ds_E t p a 0 = t 0 := ds_E_n (by rw [ds_wi_0]; exact fun z => absurd z.2 (by decide))
  refine ⟨H.1, by rw [e0]; exact H.2.1, fun w w1 w6 hw => ?_⟩
  have hn : ¬ (t w ≠ 0 ∧ ds_wi p a 6 w = true) := by
    intro z; exact hw (ds_E_y w1 w6 z.1 z.2)
  have ht : t w ≠ 0 := by rw [ds_E_n hn] at hw; exact hw
  have q := H.2.2 w w1 w6 ht
  refine ⟨q.1, q.2.1, ?_⟩
  have y : w ≠ a := by
    intro y; subst y; exact hn ⟨ht, ds_wi_a a0⟩
  have hu : ¬ (t (ds_up p w) ≠ 0 ∧ ds_wi p a 6 (ds_up p w) = true) := by
    intro z
    rw [← ds_wi_up H hp a0 (by omega) w6 ht y] at z
    exact hn ⟨ht, z.2⟩
  rw [ds_E_n hu]; exact q.2.2
theorem ds_E_01 (h : ∀ j, t j = 0 ∨ t j = 1) : ∀ j, ds_E t p a j = 0 ∨ ds_E t p a j = 1 := by
  intro j
  by_cases z : 1 ≤ j ∧ j < 6 ∧ t j ≠ 0 ∧ ds_wi p a 6 j = true
  · exact Or.inl (if_pos z)
  · have e : ds_E t p a j = t j := if_neg z
    rw [e]; exact h j
end
/-! spoil: the pixels that are done -/
def ds_bf (L U : Int) (W r c : Nat) (j : Nat) : Bool :=
  decide (L ≤ ((j % 12 : Nat) : Int) ∧ ((j % 12 : Nat) : Int) < L + (W : Int) ∧ U ≤ ((j / 12 : Nat) : Int) ∧ (((j / 12 : Nat) : Int) < U + (r : Int) ∨ (((j / 12 : Nat) : Int) = U + (r : Int) ∧ ((j % 12 : Nat) : Int) < L + (c : Int))))
def ds_re (L U : Int) (W V : Nat) (j : Nat) : Bool :=
  decide (L ≤ ((j % 12 : Nat) : Int) ∧ ((j % 12 : Nat) : Int) < L + (W : Int) ∧ U ≤ ((j / 12 : Nat) : Int) ∧ ((j / 12 : Nat) : Int) < U + (V : Int))
def ds_sp (o : Nat → Int32) (w : Int32) (b : Nat → Bool) (cl : Nat → Int32) : Nat → Int32 := fun j => if j < 120 ∧ o j = w ∧ b j = true then 0 else cl j
section
variable {o cl : Nat → Int32} {w : Int32} {b b' : Nat → Bool}
theorem ds_sp_k (h : ∀ j, j < 120 → o j = w → b j = b' j ∨ cl j = 0) : ds_sp o w b cl = ds_sp o w b' cl := by
  funext j
  show (if j < 120 ∧ o j = w ∧ b j = true then 0 else cl j) = (if j < 120 ∧ o j = w ∧ b' j = true then 0 else cl j)
  by_cases z : j < 120 ∧ o j = w
  · cases h j z.1 z.2 with
    | inl e => rw [e]
    | inr e => rw [e]; rw [ite_self, ite_self]
  · rw [if_neg (fun y => z ⟨y.1, y.2.1⟩), if_neg (fun y => z ⟨y.1, y.2.1⟩)]
theorem ds_sp_u {q : Nat} (hq : q < 120) (ho : o q = w) (hb : b' q = true) (h : ∀ j, j < 120 → j ≠ q → b' j = b j) : upd (ds_sp o w b cl) q 0 = ds_sp o w b' cl := by
  funext j
  show (if j = q then 0 else (if j < 120 ∧ o j = w ∧ b j = true then 0 else cl j)) = (if j < 120 ∧ o j = w ∧ b' j = true then 0 else cl j)
  by_cases e : j = q
  · subst e; rw [if_pos rfl, if_pos ⟨hq, ho, hb⟩]
  · rw [if_neg e]
    by_cases z : j < 120
    · rw [h j z e]
    · rw [if_neg (fun y => z y.1), if_neg (fun y => z y.1)]
theorem ds_sp_n {q : Nat} (hb : b q = false) : ds_sp o w b cl q = cl q := if_neg (fun y => by rw [hb] at y; exact absurd y.2.2 (by decide))
theorem ds_sp_0 (h : ∀ j, j < 120 → b j = false) : ds_sp o w b cl = cl := by
  funext j
  exact if_neg (fun y => by rw [h j y.1] at y; exact absurd y.2.2 (by decide))
end
section
variable {L U : Int} {W V r c : Nat}
theorem ds_bf_0 (j : Nat) : ds_bf L U W 0 0 j = false := decide_eq_false (by omega)
theorem ds_bf_r (j : Nat) : ds_bf L U W r W j = ds_bf L U W (r + 1) 0 j := decide_eq_decide.mpr (by omega)
theorem ds_bf_e (j : Nat) : ds_bf L U W V 0 j = ds_re L U W V j := decide_eq_decide.mpr (by omega)
theorem ds_bf_off (h : ¬ (0 ≤ L + (c : Int) ∧ L + (c : Int) < 12 ∧ 0 ≤ U + (r : Int) ∧ U + (r : Int) < 10)) (j : Nat) (hj : j < 120) : ds_bf L U W r c j = ds_bf L U W r (c + 1) j := decide_eq_decide.mpr (by omega)
theorem ds_bf_ne {X Y : Nat} (hX : (X : Int) = L + (c : Int)) (hY : (Y : Int) = U + (r : Int)) (j : Nat) (hj : j ≠ 12 * Y + X) : ds_bf L U W r (c + 1) j = ds_bf L U W r c j := decide_eq_decide.mpr (by omega)
theorem ds_bf_t {X Y : Nat} (hX : (X : Int) = L + (c : Int)) (hY : (Y : Int) = U + (r : Int)) (h12 : X < 12) (hc : c < W) : ds_bf L U W r (c + 1) (12 * Y + X) = true := by
  have e1 : (12 * Y + X) % 12 = X := by omega
  have e2 : (12 * Y + X) / 12 = Y := by omega
  unfold ds_bf
  rw [e1, e2]
  exact decide_eq_true (by omega)
theorem ds_bf_f {X Y : Nat} (hX : (X : Int) = L + (c : Int)) (hY : (Y : Int) = U + (r : Int)) (h12 : X < 12) : ds_bf L U W r c (12 * Y + X) = false := by
  have e1 : (12 * Y + X) % 12 = X := by omega
  have e2 : (12 * Y + X) / 12 = Y := by omega
  unfold ds_bf
  rw [e1, e2]
  exact decide_eq_false (by omega)
end
