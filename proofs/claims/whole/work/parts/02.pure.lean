/-! the pure pictures: parents, sums of offsets, depth -/
theorem ds_add {a b : Int32} (h : -1000000 ≤ a.toInt + b.toInt) (h' : a.toInt + b.toInt ≤ 1000000) : (a + b).toInt = a.toInt + b.toInt := by
  rw [Int32.toInt_add]
  exact Int.bmod_eq_of_le (by omega) (by omega)
theorem ds_sub {a b : Int32} (h : -1000000 ≤ a.toInt - b.toInt) (h' : a.toInt - b.toInt ≤ 1000000) : (a - b).toInt = a.toInt - b.toInt := by
  rw [Int32.toInt_sub]
  exact Int.bmod_eq_of_le (by omega) (by omega)
theorem ds_i0 : (0 : Int32).toInt = 0 := by decide
def ds_up (p : Nat → Int32) (a : Nat) : Nat := (p a).toNatClampNeg
def ds_cs (d p : Nat → Int32) : Nat → Nat → Int32 → Int32
  | 0, _, s => s
  | n + 1, a, s => if a = 0 then s else ds_cs d p n (ds_up p a) (s + d a)
def ds_T (t p : Nat → Int32) (dp : Nat → Nat) : Prop :=
  dp 0 = 0 ∧ t 0 ≠ 0 ∧ ∀ w, 1 ≤ w → w < 6 → t w ≠ 0 → dp w = dp (ds_up p w) + 1 ∧ dp w ≤ 5 ∧ t (ds_up p w) ≠ 0
def ds_P (p : Nat → Int32) : Prop := ∀ w, w < 6 → ds_up p w < 6 ∧ p w = nI (ds_up p w)
def ds_B (d : Nat → Int32) : Prop := ∀ w, w < 6 → -15 ≤ (d w).toInt ∧ (d w).toInt ≤ 15
theorem ds_cs_0 {d p : Nat → Int32} {n : Nat} {s : Int32} : ds_cs d p n 0 s = s := by
  cases n with
  | zero => rfl
  | succ n => exact if_pos rfl
theorem ds_cs_n {d p : Nat → Int32} {n a : Nat} {s : Int32} (h : a ≠ 0) : ds_cs d p (n + 1) a s = ds_cs d p n (ds_up p a) (s + d a) := if_neg h
theorem ds_cs_s {d t p : Nat → Int32} {dp : Nat → Nat} (H : ds_T t p dp) (hp : ds_P p) : ∀ n a s, a < 6 → t a ≠ 0 → dp a ≤ n → ds_cs d p (n + 1) a s = ds_cs d p n a s := by
  intro n
  induction n with
  | zero =>
    intro a s ha h hd
    by_cases z : a = 0
    · subst z; rw [ds_cs_0, ds_cs_0]
    · have := (H.2.2 a (by omega) ha h).1; omega
  | succ n ih =>
    intro a s ha h hd
    by_cases z : a = 0
    · subst z; rw [ds_cs_0, ds_cs_0]
    · have q := H.2.2 a (by omega) ha h
      rw [ds_cs_n z, ds_cs_n z]
      exact ih _ _ (hp a ha).1 q.2.2 (by omega)
theorem ds_dp5 {t p : Nat → Int32} {dp : Nat → Nat} (H : ds_T t p dp) {a : Nat} (ha : a < 6) (h : t a ≠ 0) : dp a ≤ 5 := by
  by_cases z : a = 0
  · subst z; rw [H.1]; omega
  · exact (H.2.2 a (by omega) ha h).2.1
theorem ds_cs_6 {d t p : Nat → Int32} {dp : Nat → Nat} (H : ds_T t p dp) (hp : ds_P p) {a : Nat} (ha : a < 6) (h : t a ≠ 0) : ds_cs d p 6 a 0 = ds_cs d p 5 a 0 :=
  ds_cs_s H hp 5 a 0 ha h (ds_dp5 H ha h)
theorem ds_cs_b {d p : Nat → Int32} (hd : ds_B d) (hp : ds_P p) : ∀ (n a : Nat) (s : Int32) (B : Int), a < 6 → 0 ≤ B → B + 15 * (n : Int) ≤ 1000 → -B ≤ s.toInt → s.toInt ≤ B → -(B + 15 * (n : Int)) ≤ (ds_cs d p n a s).toInt ∧ (ds_cs d p n a s).toInt ≤ B + 15 * (n : Int) := by
  intro n
  induction n with
  | zero =>
    intro a s B ha h0 hB h1 h2
    show -(B + 15 * ((0 : Nat) : Int)) ≤ s.toInt ∧ s.toInt ≤ B + 15 * ((0 : Nat) : Int)
    omega
  | succ n ih =>
    intro a s B ha h0 hB h1 h2
    by_cases z : a = 0
    · subst z; rw [ds_cs_0]; omega
    · rw [ds_cs_n z]
      have b := hd a ha
      have e : (s + d a).toInt = s.toInt + (d a).toInt := ds_add (by omega) (by omega)
      have := ih (ds_up p a) (s + d a) (B + 15) (hp a ha).1 (by omega) (by omega) (by omega) (by omega)
      omega
theorem ds_cs_5 {d p : Nat → Int32} (hd : ds_B d) (hp : ds_P p) {a : Nat} (ha : a < 6) : -75 ≤ (ds_cs d p 5 a 0).toInt ∧ (ds_cs d p 5 a 0).toInt ≤ 75 := by
  have := ds_cs_b hd hp 5 a 0 0 ha (by omega) (by omega) (by rw [ds_i0]; omega) (by rw [ds_i0]; omega)
  omega
/-! pigeonhole, and the depth of a new window -/
theorem ds_ph : ∀ (n : Nat) (f : Nat → Nat), (∀ i, i ≤ n → f i < n) → ∃ i j, i < j ∧ j ≤ n ∧ f i = f j := by
  intro n
  induction n with
  | zero => intro f h; exact absurd (h 0 (Nat.le_refl 0)) (Nat.not_lt_zero _)
  | succ n ih =>
    intro f h
    by_cases e : ∃ i, i ≤ n ∧ f i = f (n + 1)
    · obtain ⟨i, hi, hf⟩ := e
      exact ⟨i, n + 1, by omega, by omega, hf⟩
    · have e' : ∀ i, i ≤ n → f i ≠ f (n + 1) := fun i hi hf => e ⟨i, hi, hf⟩
      obtain ⟨i, j, hij, hj, hg⟩ := ih (fun i => if f i = n then f (n + 1) else f i) (by
        intro i hi
        have a := h i (by omega)
        have b := h (n + 1) (by omega)
        have c := e' i hi
        by_cases z : f i = n
        · show (if f i = n then f (n + 1) else f i) < n
          rw [if_pos z]; omega
        · show (if f i = n then f (n + 1) else f i) < n
          rw [if_neg z]; omega)
      refine ⟨i, j, hij, by omega, ?_⟩
      have hg' : (if f i = n then f (n + 1) else f i) = (if f j = n then f (n + 1) else f j) := hg
      have c1 := e' i (by omega)
      have c2 := e' j (by omega)
      by_cases z : f i = n
      · by_cases y : f j = n
        · rw [z, y]
        · rw [if_pos z, if_neg y] at hg'; exact absurd hg'.symm c2
      · by_cases y : f j = n
        · rw [if_neg z, if_pos y] at hg'; exact absurd hg' c1
        · rw [if_neg z, if_neg y] at hg'; exact hg'
theorem ds_chain {t p : Nat → Int32} {dp : Nat → Nat} (H : ds_T t p dp) (hp : ds_P p) : ∀ d a, a < 6 → t a ≠ 0 → dp a = d → ∀ e, 1 ≤ e → e ≤ d → ∃ b, 1 ≤ b ∧ b < 6 ∧ t b ≠ 0 ∧ dp b = e := by
  intro d
  induction d with
  | zero => intro a ha h hd e h1 h2; omega
  | succ d ih =>
    intro a ha h hd e h1 h2
    have z : a ≠ 0 := by
      intro z; subst z; rw [H.1] at hd; omega
    have q := H.2.2 a (by omega) ha h
    by_cases y : e = d + 1
    · exact ⟨a, by omega, ha, h, by omega⟩
    · exact ih (ds_up p a) (hp a ha).1 q.2.2 (by omega) e h1 (by omega)
theorem ds_dep {t p : Nat → Int32} {dp : Nat → Nat} (H : ds_T t p dp) (hp : ds_P p) {w a : Nat} (w1 : 1 ≤ w) (w6 : w < 6) (tw : t w = 0) (ha : a < 6) (h : t a ≠ 0) : dp a ≤ 4 := by
  have h5 := ds_dp5 H ha h
  by_cases z : dp a ≤ 4
  · exact z
  · exfalso
    have hd : dp a = 5 := by omega
    have c : ∀ e : Nat, ∃ b : Nat, 1 ≤ e → e ≤ 5 → 1 ≤ b ∧ b < 6 ∧ t b ≠ 0 ∧ dp b = e := by
      intro e
      by_cases y : 1 ≤ e ∧ e ≤ 5
      · obtain ⟨b, hb⟩ := ds_chain H hp 5 a ha h hd e y.1 y.2
        exact ⟨b, fun _ _ => hb⟩
      · exact ⟨0, fun y1 y2 => absurd ⟨y1, y2⟩ y⟩
    obtain ⟨g, hg⟩ : ∃ g : Nat → Nat, ∀ e, 1 ≤ e → e ≤ 5 → 1 ≤ g e ∧ g e < 6 ∧ t (g e) ≠ 0 ∧ dp (g e) = e := ⟨fun e => Classical.choose (c e), fun e => Classical.choose_spec (c e)⟩
    obtain ⟨i, j, hij, hj, hf⟩ := ds_ph 5 (fun i => if i = 0 then w - 1 else g i - 1) (by
      intro i hi
      show (if i = 0 then w - 1 else g i - 1) < 5
      by_cases y : i = 0
      · rw [if_pos y]; omega
      · rw [if_neg y]
        have := hg i (by omega) hi
        omega)
    have hf' : (if i = 0 then w - 1 else g i - 1) = (if j = 0 then w - 1 else g j - 1) := hf
    have gj := hg j (by omega) hj
    rw [if_neg (show ¬ j = 0 by omega)] at hf'
    by_cases y : i = 0
    · rw [if_pos y] at hf'
      have e : g j = w := by omega
      rw [e] at gj
      exact gj.2.2.1 tw
    · rw [if_neg y] at hf'
      have gi := hg i (by omega) (by omega)
      have e : g i = g j := by omega
      rw [e] at gi
      omega
